section
/-! trees of FormulaTrees stay trees: lost nodes, moves, shifts -/
section KK
variable {s0 s : aS} {b i z9 : Nat} {t : List Int32} {ns : List (List Int32)}
def AB (b a : Nat) : Prop := a = b ∨ a = b + 1
set_option maxRecDepth 100000 in
theorem k58 {j N : Nat} (h : KW s0 s b i z9) (hb : b = 102 ∨ 149 ≤ b) (hN : sI s b 2 = Int32.ofNat N) (h8 : N ≤ 128) (hj : j < N) : ∃ s', dm58 b (Int32.ofNat j) s = some s' ∧ KW s0 s' b i z9 ∧ ch (fun a _ => a = b ∨ a = b + 1) s s' := by
  obtain ⟨s', a1, a2, a3⟩ := d58 hN h8 hj
  refine ⟨s', a1, ?_, a3.mono fun a k z => Or.inr z.1⟩
  obtain ⟨g1, g2, ⟨N', u, b1, b2, b3, b4, b5⟩, ⟨hd, c1, c2, c3⟩, ⟨m0, d1, d2⟩, o, e1, e2⟩ := h
  refine ⟨g1.trans (a3.mono fun a k z => by unfold AC; omega), (a3.i (by omega)).trans g2, ⟨N', u, b1, (a3.i (by omega)).trans b2, b3.of a3 (by omega) (fun k => by omega), b4, fun q hq => ?_⟩, ⟨hd, c1.of a3 (by omega) (fun k => by omega), c2, c3⟩, ⟨m0, d1, (a3.i (by omega)).trans d2⟩, o, e1, (a3.i (by omega)).trans e2⟩
  by_cases c : q = j
  · subst c
    exact ⟨[], ⟨0, a2 9 (by decide), a2 10 (by decide), Nat.zero_le _, fun j hj => absurd hj (Nat.not_lt_zero j)⟩, fun y hy => (by cases hy)⟩
  · obtain ⟨l, ⟨st, r1, r2, r3, r4⟩, r5⟩ := b5 q hq
    exact ⟨l, ⟨st, (a3.i (by omega)).trans r1, (a3.i (by omega)).trans r2, r3, r4⟩, r5⟩
set_option maxRecDepth 100000 in
theorem abN {s s' : aS} (c : ch (fun a q => (a = b ∧ q ≠ 2) ∨ a = b + 1) s s') : sI s' b 2 = sI s b 2 := c.i (by omega)
/-- what keeps the count of nodes -/
def KN (s0 s : aS) (b i z9 N : Nat) : Prop := KW s0 s b i z9 ∧ sI s b 2 = Int32.ofNat N
set_option maxRecDepth 100000 in
theorem k60n {N w : Nat} (h : KN s0 s b i z9 N) (hb : b = 102 ∨ 149 ≤ b) (x v : Int32) (hw : w < 9) : ∃ s', dm60 b x (Int32.ofNat w) v s = some s' ∧ KN s0 s' b i z9 N ∧ ch (fun a _ => a = b + 1) s s' := by
  obtain ⟨s', a1, a2, a3⟩ := k60 h.1 hb x v w hw
  have key : ch (fun a _ => a = b + 1) s s' := by
    unfold dm60 at a1
    repeat' split at a1
    all_goals first
      | (have a1 := Option.some.inj a1; subst a1; exact ch.refl _ s)
      | (rw [nx_eq] at a1; have a1 := Option.some.inj a1; subst a1; exact (ch.refl _ s).wI rfl)
      | cases a1
  exact ⟨s', a1, ⟨a2, (key.i (by omega)).trans h.2⟩, key⟩
set_option maxRecDepth 100000 in
theorem k58n {N j : Nat} (h : KN s0 s b i z9 N) (hb : b = 102 ∨ 149 ≤ b) (h8 : N ≤ 128) (hj : j < N) : ∃ s', dm58 b (Int32.ofNat j) s = some s' ∧ KN s0 s' b i z9 N ∧ ch (fun a _ => a = b + 1) s s' := by
  obtain ⟨s', a1, a2, a3⟩ := k58 h.1 hb h.2 h8 hj
  obtain ⟨s2, c1, c2, c3⟩ := d58 h.2 h8 hj
  rw [a1] at c1
  cases c1
  have key : ch (fun a _ => a = b + 1) s s' := c3.mono fun a k z => z.1
  exact ⟨s', a1, ⟨a2, (key.i (by omega)).trans h.2⟩, key⟩
set_option maxRecDepth 100000 in
theorem k56 {N : Nat} (h : KN s0 s b i z9 N) (hb : b = 102 ∨ 149 ≤ b) (h8 : N ≤ 128) (x : Int32) : ∃ s', dm56 b x s = some s' ∧ KN s0 s' b i z9 N ∧ ch (fun a _ => a = b + 1) s s' := by
  have loop : ∀ (m j n : Nat) (s : aS), KN s0 s b i z9 N → j + m = N → m < n → ∃ s', dm56_2 n b x (Int32.ofNat j) s = some s' ∧ KN s0 s' b i z9 N ∧ ch (fun a _ => a = b + 1) s s' := by
    intro m
    induction m with
    | zero =>
      intro j n s h h1 h2
      obtain ⟨n, rfl⟩ : ∃ q, n = q + 1 := ⟨n - 1, by omega⟩
      rw [dm56_2, h.2, if_pos ((nle_iff (by omega) (by omega)).mpr (by omega))]
      exact ⟨s, rfl, h, ch.refl _ s⟩
    | succ m ih =>
      intro j n s h h1 h2
      obtain ⟨n, rfl⟩ : ∃ q, n = q + 1 := ⟨n - 1, by omega⟩
      obtain ⟨v, e⟩ := k57 h.1 (Int32.ofNat j) 2 (by omega)
      have e : dm57 b (Int32.ofNat j) 2 s = some v := e
      rw [dm56_2, h.2, if_neg (fun q => by have := (nle_iff (by omega) (by omega)).mp q; omega), e]
      simp only [bu_some]
      unfold dm56_28
      rw [ofNat_succ (by omega)]
      split
      · obtain ⟨s1, a1, a2, a3⟩ := k58n h hb h8 (show j < N by omega)
        rw [a1]
        simp only [bu_some]
        obtain ⟨s2, c1, c2, c3⟩ := ih (j + 1) n s1 a2 (by omega) (by omega)
        exact ⟨s2, c1, c2, a3.trans c3⟩
      · split
        · exact ih (j + 1) n s h (by omega) (by omega)
        · obtain ⟨s1, a1, a2, a3⟩ := k60n (w := 2) h hb (Int32.ofNat j) (v - 1) (by omega)
          have a1 : dm60 b (Int32.ofNat j) 2 (v - 1) s = some s1 := a1
          rw [a1]
          simp only [bu_some]
          obtain ⟨s2, c1, c2, c3⟩ := ih (j + 1) n s1 a2 (by omega) (by omega)
          exact ⟨s2, c1, c2, a3.trans c3⟩
  exact loop N 0 5000 s h (by omega) (by omega)
set_option maxRecDepth 100000 in
theorem k101n {N : Nat} (h : KN s0 s b i z9 N) (hb : b = 102 ∨ 149 ≤ b) (x : Int32) : ∃ s', dm101 b x s = some s' ∧ KN s0 s' b i z9 N ∧ ch (fun a _ => a = b + 1) s s' := by
  have e102 : ∀ (w : Nat) (s : aS), (w = 3 ∨ w = 4) → KN s0 s b i z9 N → ∃ s', dm102 b x (Int32.ofNat w) s = some s' ∧ KN s0 s' b i z9 N ∧ ch (fun a _ => a = b + 1) s s' := by
    intro w s hw h
    have e2 : Int32.ofNat w + 2 = Int32.ofNat (w + 2) := iSum (i := w) (j := 2) (by omega) (by omega)
    obtain ⟨v1, q1⟩ := k57 h.1 x w (by omega)
    obtain ⟨v2, q2⟩ := k57 h.1 x (w + 2) (by omega)
    unfold dm102
    rw [e2, q1]
    simp only [bu_some]
    rw [q2]
    simp only [bu_some]
    obtain ⟨s1, a1, a2, a3⟩ := k60n (w := w) h hb x v2 (by omega)
    rw [a1]
    simp only [bu_some]
    obtain ⟨s2, b1, b2, b3⟩ := k60n (w := w + 2) a2 hb x v1 (by omega)
    rw [b1]
    simp only [bu_some]
    have f28 : ∀ y, ∃ s', dm102_28 b x y s2 = some s' ∧ KN s0 s' b i z9 N ∧ ch (fun a _ => a = b + 1) s s' := by
      intro y
      obtain ⟨v3, q3⟩ := k57 b2.1 x 7 (by omega)
      have q3 : dm57 b x 7 s2 = some v3 := q3
      unfold dm102_28
      rw [q3]
      simp only [bu_some]
      obtain ⟨s3, c1, c2, c3⟩ := k60n (w := 7) b2 hb x (((v3 &&& ((y * 5) ^^^ (-1))) + ((v3 &&& y) * 4)) + ((v3 &&& (y * 4)) / 4)) (by omega)
      have c1 : dm60 b x 7 (((v3 &&& ((y * 5) ^^^ (-1))) + ((v3 &&& y) * 4)) + ((v3 &&& (y * 4)) / 4)) s2 = some s3 := c1
      rw [c1]
      exact ⟨s3, rfl, c2, (a3.trans b3).trans c3⟩
    split
    · exact f28 1
    · exact f28 2
  have f13 : ∀ s, KN s0 s b i z9 N → ∃ s', dm101_13 b x s = some s' ∧ KN s0 s' b i z9 N ∧ ch (fun a _ => a = b + 1) s s' := by
    intro s h
    obtain ⟨v1, q1⟩ := k57 h.1 x 4 (by omega)
    obtain ⟨v2, q2⟩ := k57 h.1 x 6 (by omega)
    have q1 : dm57 b x 4 s = some v1 := q1
    have q2 : dm57 b x 6 s = some v2 := q2
    unfold dm101_13
    rw [q1]
    simp only [bu_some]
    rw [q2]
    simp only [bu_some]
    split
    · exact ⟨s, rfl, h, ch.refl _ s⟩
    · obtain ⟨s1, a1, a2, a3⟩ := e102 4 s (Or.inr rfl) h
      have a1 : dm102 b x 4 s = some s1 := a1
      rw [a1]
      exact ⟨s1, rfl, a2, a3⟩
  obtain ⟨v1, q1⟩ := k57 h.1 x 3 (by omega)
  obtain ⟨v2, q2⟩ := k57 h.1 x 5 (by omega)
  have q1 : dm57 b x 3 s = some v1 := q1
  have q2 : dm57 b x 5 s = some v2 := q2
  unfold dm101
  rw [q1]
  simp only [bu_some]
  rw [q2]
  simp only [bu_some]
  split
  · exact f13 s h
  · obtain ⟨s1, a1, a2, a3⟩ := e102 3 s (Or.inl rfl) h
    have a1 : dm102 b x 3 s = some s1 := a1
    rw [a1]
    simp only [bu_some]
    obtain ⟨s2, b1, b2, b3⟩ := f13 s1 a2
    exact ⟨s2, b1, b2, a3.trans b3⟩
set_option maxRecDepth 100000 in
theorem k129 (h : KW s0 s b i z9) (x : Int32) : ∃ v, dm129 b x s = some v := by
  obtain ⟨v, q⟩ := k57 h x 0 (by omega)
  have q : dm57 b x 0 s = some v := q
  unfold dm129 dm129_12
  rw [q]
  simp only [bu_some]
  repeat' split
  all_goals exact ⟨_, rfl⟩
set_option maxRecDepth 100000 in
theorem k131 (h : KW s0 s b i z9) (x y : Int32) : ∃ v, dm131 b x y s = some v := by
  obtain ⟨v, q⟩ := k57 h x 0 (by omega)
  have q : dm57 b x 0 s = some v := q
  obtain ⟨v7, q7⟩ := k57 h x 7 (by omega)
  have q7 : dm57 b x 7 s = some v7 := q7
  unfold dm131 dm131_9 dm131_12 dm131_19 dm131_22 dm131_28 dm131_33
  rw [q, q7]
  simp only [bu_some]
  repeat' split
  all_goals exact ⟨_, rfl⟩
set_option maxRecDepth 100000 in
theorem k130 {N j : Nat} (h : KN s0 s b i z9 N) (hb : b = 102 ∨ 149 ≤ b) (h8 : N ≤ 128) (hj : j < N) (x y : Int32) : ∃ s', dm130 b (Int32.ofNat j) x y s = some s' ∧ KN s0 s' b i z9 N ∧ ch (fun a _ => a = b + 1) s s' := by
  have f55 : ∀ (z : Int32) (s : aS), KN s0 s b i z9 N → ∃ s', dm130_55 b (Int32.ofNat j) z s = some s' ∧ KN s0 s' b i z9 N ∧ ch (fun a _ => a = b + 1) s s' := by
    intro z s h
    unfold dm130_55
    split
    · obtain ⟨s1, a1, a2, a3⟩ := k58n h hb h8 hj
      rw [a1]
      exact ⟨s1, rfl, a2, a3⟩
    · obtain ⟨s1, a1, a2, a3⟩ := k101n h hb (Int32.ofNat j)
      rw [a1]
      exact ⟨s1, rfl, a2, a3⟩
  have loop : ∀ (m w n : Nat) (z : Int32) (s : aS), KN s0 s b i z9 N → w + m = 7 → 3 ≤ w → m < n → ∃ s', dm130_4 n b (Int32.ofNat j) x y z (Int32.ofNat w) s = some s' ∧ KN s0 s' b i z9 N ∧ ch (fun a _ => a = b + 1) s s' := by
    intro m
    induction m with
    | zero =>
      intro w n z s h h1 h2 h3
      obtain ⟨n, rfl⟩ : ∃ q, n = q + 1 := ⟨n - 1, by omega⟩
      have : w = 7 := by omega
      subst this
      rw [dm130_4, if_pos (by decide)]
      exact f55 z s h
    | succ m ih =>
      intro w n z s h h1 h2 h3
      obtain ⟨n, rfl⟩ : ∃ q, n = q + 1 := ⟨n - 1, by omega⟩
      have f47 : ∀ (v c : Int32), ∃ s', dm130_47 (dm130_4 n) b (Int32.ofNat j) x y (Int32.ofNat w) v c s = some s' ∧ KN s0 s' b i z9 N ∧ ch (fun a _ => a = b + 1) s s' := by
        intro v c
        obtain ⟨s1, a1, a2, a3⟩ := k60n (w := w) h hb (Int32.ofNat j) v (by omega)
        unfold dm130_47
        rw [a1]
        simp only [bu_some]
        rw [ofNat_succ (by omega)]
        obtain ⟨s2, c1, c2, c3⟩ := ih (w + 1) n c s1 a2 (by omega) (by omega) (by omega)
        exact ⟨s2, c1, c2, a3.trans c3⟩
      have f37 : ∀ (r v : Int32), ∃ s', dm130_37 (dm130_4 n) b (Int32.ofNat j) x y (Int32.ofNat w) r v s = some s' ∧ KN s0 s' b i z9 N ∧ ch (fun a _ => a = b + 1) s s' := by
        intro r v
        unfold dm130_37 dm130_46
        have e132 : ∃ q, dm132 r = some q := by
          unfold dm132
          split <;> exact ⟨_, rfl⟩
        obtain ⟨q, eq⟩ := e132
        rw [eq]
        simp only [bu_some]
        split
        · exact f47 v 0
        · split
          · exact f47 v 0
          · exact f47 v 1
      have f18 : ∀ (r : Int32), ∃ s', dm130_18 (dm130_4 n) b (Int32.ofNat j) x y (Int32.ofNat w) r s = some s' ∧ KN s0 s' b i z9 N ∧ ch (fun a _ => a = b + 1) s s' := by
        intro r
        obtain ⟨v, e1⟩ := k57 h.1 (Int32.ofNat j) w (by omega)
        obtain ⟨v2, e2⟩ := k131 h.1 (Int32.ofNat j) (Int32.ofNat w)
        unfold dm130_18 dm130_35
        rw [e1]
        simp only [bu_some]
        rw [e2]
        simp only [bu_some]
        split
        · split
          · exact f37 _ _
          · exact f37 _ _
        · exact f37 _ _
      rw [dm130_4, if_neg (fun q => by have := (nlt_iff (a := 6) (by omega) (by omega)).mp q; omega)]
      unfold dm130_15
      split
      · exact f55 z s h
      · split
        · exact f18 1
        · split
          · exact f18 1
          · exact f18 0
  exact loop 4 3 5000 1 s h (by omega) (by omega) (by omega)
set_option maxRecDepth 100000 in
theorem k128 {N : Nat} (h : KN s0 s b i z9 N) (hb : b = 102 ∨ 149 ≤ b) (h8 : N ≤ 128) (x y : Int32) : ∃ s', dm128 b x y s = some s' ∧ KN s0 s' b i z9 N ∧ ch (fun a _ => a = b + 1) s s' := by
  have loop : ∀ (m j n : Nat) (s : aS), KN s0 s b i z9 N → j + m = N → m < n → ∃ s', dm128_2 n b x y (Int32.ofNat j) s = some s' ∧ KN s0 s' b i z9 N ∧ ch (fun a _ => a = b + 1) s s' := by
    intro m
    induction m with
    | zero =>
      intro j n s h h1 h2
      obtain ⟨n, rfl⟩ : ∃ q, n = q + 1 := ⟨n - 1, by omega⟩
      rw [dm128_2, h.2, if_pos ((nle_iff (by omega) (by omega)).mpr (by omega))]
      exact ⟨s, rfl, h, ch.refl _ s⟩
    | succ m ih =>
      intro j n s h h1 h2
      obtain ⟨n, rfl⟩ : ∃ q, n = q + 1 := ⟨n - 1, by omega⟩
      obtain ⟨v, e⟩ := k129 h.1 (Int32.ofNat j)
      rw [dm128_2, h.2, if_neg (fun q => by have := (nle_iff (by omega) (by omega)).mp q; omega), e]
      simp only [bu_some]
      unfold dm128_15
      rw [ofNat_succ (by omega)]
      split
      · exact ih (j + 1) n s h (by omega) (by omega)
      · obtain ⟨s1, a1, a2, a3⟩ := k130 h hb h8 (show j < N by omega) x y
        rw [a1]
        simp only [bu_some]
        obtain ⟨s2, c1, c2, c3⟩ := ih (j + 1) n s1 a2 (by omega) (by omega)
        exact ⟨s2, c1, c2, a3.trans c3⟩
  exact loop N 0 5000 s h (by omega) (by omega)
end KK
end
section
/-! shifts keep trees trees; a tree becomes another -/
section KK
variable {s0 s : aS} {b i z9 : Nat} {t : List Int32} {ns : List (List Int32)}
/-- how a method on a tree comes to its end -/
def KX (s0 s : aS) (b i z9 N : Nat) (D : Option (Int32 × aS)) : Prop := ∃ v s', D = some (v, s') ∧ KN s0 s' b i z9 N ∧ ch (fun a _ => a = b + 1) s s'
set_option maxRecDepth 100000 in
theorem e132 (x : Int32) : ∃ v, dm132 x = some v := by
  unfold dm132
  split <;> exact ⟨_, rfl⟩
set_option maxRecDepth 100000 in
theorem k136 {N : Nat} (h : KN s0 s b i z9 N) (hb : b = 102 ∨ 149 ≤ b) (x x2 x3 x4 : Int32) : KX s0 s b i z9 N (dm136 b x x2 x3 x4 s) := by
  obtain ⟨r, er⟩ := e132 x2
  have f52 : ∀ (x5 x6 : Int32) (w : Nat) (s : aS), w < 9 → KN s0 s b i z9 N → KX s0 s b i z9 N (dm136_52 x2 x5 x6 b x (Int32.ofNat w) s) := by
    intro x5 x6 w s hw h
    unfold dm136_52
    rw [er]
    simp only [bu_some]
    obtain ⟨s1, a1, a2, a3⟩ := k60n (w := w) h hb x (if r < x6 then r else x6) hw
    rw [a1]
    simp only [bu_some]
    split
    · exact ⟨_, s1, rfl, a2, a3⟩
    · exact ⟨_, s1, rfl, a2, a3⟩
  have f43 : ∀ (x5 x6 : Int32) (w : Nat) (s : aS), w < 9 → KN s0 s b i z9 N → KX s0 s b i z9 N (dm136_43 b x x2 x5 x6 b x (Int32.ofNat w) s) := by
    intro x5 x6 w s hw h
    unfold dm136_43
    obtain ⟨s1, a1, a2, a3⟩ := k60n (w := w) h hb x x5 hw
    rw [a1]
    simp only [bu_some]
    split
    · obtain ⟨v, s2, c1, c2, c3⟩ := f52 x5 x6 6 s1 (by omega) a2
      exact ⟨v, s2, c1, c2, a3.trans c3⟩
    · obtain ⟨v, s2, c1, c2, c3⟩ := f52 x5 x6 5 s1 (by omega) a2
      exact ⟨v, s2, c1, c2, a3.trans c3⟩
  have f34 : ∀ (x5 y0 y1 : Int32), KX s0 s b i z9 N (dm136_34 b x x2 x5 y0 y1 s) := by
    intro x5 y0 y1
    unfold dm136_34
    split
    · exact f43 x5 (y0 + y1) 4 s (by omega) h
    · exact f43 x5 (y0 + y1) 3 s (by omega) h
  have f25 : ∀ (x6 y0 y1 : Int32), KX s0 s b i z9 N (dm136_25 b x x2 x3 x4 x6 y0 y1 s) := by
    intro x6 y0 y1
    unfold dm136_25
    split
    · exact f34 _ _ _
    · exact f34 _ _ _
  have f16 : ∀ (x5 : Int32) (w : Nat), w < 9 → KX s0 s b i z9 N (dm136_16 b x x2 x3 x4 x5 b x (Int32.ofNat w) s) := by
    intro x5 w hw
    unfold dm136_16
    obtain ⟨v, e⟩ := k57 h.1 x w (by omega)
    rw [e]
    simp only [bu_some]
    split
    · exact f25 _ _ _
    · exact f25 _ _ _
  have f7 : ∀ (w : Nat), w < 9 → KX s0 s b i z9 N (dm136_7 b x x2 x3 x4 b x (Int32.ofNat w) s) := by
    intro w hw
    unfold dm136_7
    obtain ⟨v, e⟩ := k57 h.1 x w (by omega)
    rw [e]
    simp only [bu_some]
    split
    · exact f16 v 6 (by omega)
    · exact f16 v 5 (by omega)
  unfold dm136
  split
  · exact f7 4 (by omega)
  · exact f7 3 (by omega)
set_option maxRecDepth 100000 in
theorem k135 {N : Nat} (h : KN s0 s b i z9 N) (hb : b = 102 ∨ 149 ≤ b) (x x2 x3 x4 : Int32) : KX s0 s b i z9 N (dm135 b x x2 x3 x4 s) := by
  have f68 : ∀ (x6 x8 : Int32) (w : Nat) (s : aS), (x8 = 0 ∨ x8 = 1) → w < 9 → KN s0 s b i z9 N → KX s0 s b i z9 N (dm135_68 x6 x8 b x (Int32.ofNat w) s) := by
    intro x6 x8 w s h8 hw h
    unfold dm135_68
    obtain ⟨s1, a1, a2, a3⟩ := k60n (w := w) h hb x x6 hw
    rw [a1]
    simp only [bu_some]
    rw [if_pos h8]
    exact ⟨_, s1, rfl, a2, a3⟩
  have f59 : ∀ (x5 x6 x8 : Int32) (w : Nat) (s : aS), (x8 = 0 ∨ x8 = 1) → w < 9 → KN s0 s b i z9 N → KX s0 s b i z9 N (dm135_59 b x x2 x5 x6 x8 b x (Int32.ofNat w) s) := by
    intro x5 x6 x8 w s h8 hw h
    unfold dm135_59
    obtain ⟨s1, a1, a2, a3⟩ := k60n (w := w) h hb x x5 hw
    rw [a1]
    simp only [bu_some]
    split
    · obtain ⟨v, s2, c1, c2, c3⟩ := f68 x6 x8 6 s1 h8 (by omega) a2
      exact ⟨v, s2, c1, c2, a3.trans c3⟩
    · obtain ⟨v, s2, c1, c2, c3⟩ := f68 x6 x8 5 s1 h8 (by omega) a2
      exact ⟨v, s2, c1, c2, a3.trans c3⟩
  have f52 : ∀ (x5 x6 x8 : Int32), (x8 = 0 ∨ x8 = 1) → KX s0 s b i z9 N (dm135_52 b x x2 x5 x6 x8 s) := by
    intro x5 x6 x8 h8
    unfold dm135_52
    split
    · exact f59 x5 x6 x8 4 s h8 (by omega) h
    · exact f59 x5 x6 x8 3 s h8 (by omega) h
  have f41 : ∀ (x5 x6 x8 : Int32), (x8 = 0 ∨ x8 = 1) → KX s0 s b i z9 N (dm135_41 b x x2 x3 x4 x5 x6 x8 s) := by
    intro x5 x6 x8 h8
    unfold dm135_41
    split
    · exact f52 _ _ _ h8
    · exact f52 _ _ _ h8
  have f31 : ∀ (x5 x6 x8 : Int32), (x8 = 0 ∨ x8 = 1) → KX s0 s b i z9 N (dm135_31 b x x2 x3 x4 x5 x6 x8 s) := by
    intro x5 x6 x8 h8
    unfold dm135_31
    split
    · exact f41 _ _ _ h8
    · exact f41 _ _ _ h8
  have f16 : ∀ (x5 : Int32) (w : Nat), w < 9 → KX s0 s b i z9 N (dm135_16 b x x2 x3 x4 x5 b x (Int32.ofNat w) s) := by
    intro x5 w hw
    unfold dm135_16 dm135_28
    obtain ⟨v, e⟩ := k57 h.1 x w (by omega)
    rw [e]
    simp only [bu_some]
    split
    · exact f31 _ _ _ (Or.inr rfl)
    · split
      · exact f31 _ _ _ (Or.inl rfl)
      · exact f31 _ _ _ (Or.inr rfl)
  have f7 : ∀ (w : Nat), w < 9 → KX s0 s b i z9 N (dm135_7 b x x2 x3 x4 b x (Int32.ofNat w) s) := by
    intro w hw
    unfold dm135_7
    obtain ⟨v, e⟩ := k57 h.1 x w (by omega)
    rw [e]
    simp only [bu_some]
    split
    · exact f16 v 6 (by omega)
    · exact f16 v 5 (by omega)
  unfold dm135
  split
  · exact f7 4 (by omega)
  · exact f7 3 (by omega)
set_option maxRecDepth 100000 in
theorem k134 {N : Nat} (h : KN s0 s b i z9 N) (hb : b = 102 ∨ 149 ≤ b) (h8 : N ≤ 128) (x1 x2 x3 x4 x5 : Int32) : KX s0 s b i z9 N (dm134 b x1 x2 x3 x4 x5 s) := by
  have loop : ∀ (m j n : Nat) (x6 : Int32) (s : aS), KN s0 s b i z9 N → j + m = N → m < n → KX s0 s b i z9 N (dm134_4 n b x1 x2 x3 x4 x5 x6 (Int32.ofNat j) s) := by
    intro m
    induction m with
    | zero =>
      intro j n x6 s h h1 h2
      obtain ⟨n, rfl⟩ : ∃ q, n = q + 1 := ⟨n - 1, by omega⟩
      rw [dm134_4, h.2, if_pos ((nle_iff (by omega) (by omega)).mpr (by omega))]
      exact ⟨_, s, rfl, h, ch.refl _ s⟩
    | succ m ih =>
      intro j n x6 s h h1 h2
      obtain ⟨n, rfl⟩ : ∃ q, n = q + 1 := ⟨n - 1, by omega⟩
      have f48 : ∀ (x6 : Int32) (s : aS), KN s0 s b i z9 N → KX s0 s b i z9 N (dm134_48 (dm134_4 n) b x1 x2 x3 x4 x5 x6 (Int32.ofNat j) s) := by
        intro x6 s h
        unfold dm134_48
        rw [ofNat_succ (by omega)]
        exact ih (j + 1) n x6 s h (by omega) (by omega)
      have f41 : ∀ (y : Int32) (s : aS), KN s0 s b i z9 N → KX s0 s b i z9 N (dm134_41 (dm134_4 n) b x1 x2 x3 x4 x5 x6 (Int32.ofNat j) y s) := by
        intro y s h
        unfold dm134_41
        split
        · obtain ⟨s1, a1, a2, a3⟩ := k58n h hb h8 (show j < N by omega)
          rw [a1]
          simp only [bu_some]
          obtain ⟨v, s2, c1, c2, c3⟩ := f48 (x6 + 1) s1 a2
          exact ⟨v, s2, c1, c2, a3.trans c3⟩
        · exact f48 x6 s h
      have f25 : KX s0 s b i z9 N (dm134_25 (dm134_4 n) b x1 x2 x3 x4 x5 x6 (Int32.ofNat j) s) := by
        unfold dm134_25
        split
        · obtain ⟨v, s1, a1, a2, a3⟩ := k136 h hb (Int32.ofNat j) x3 x4 x5
          rw [a1]
          simp only [bv_some]
          obtain ⟨v, s2, c1, c2, c3⟩ := f41 v s1 a2
          exact ⟨v, s2, c1, c2, a3.trans c3⟩
        · obtain ⟨v, s1, a1, a2, a3⟩ := k135 h hb (Int32.ofNat j) x3 x4 (-x5)
          rw [a1]
          simp only [bv_some]
          obtain ⟨v, s2, c1, c2, c3⟩ := f41 v s1 a2
          exact ⟨v, s2, c1, c2, a3.trans c3⟩
      obtain ⟨v, e⟩ := k57 h.1 (Int32.ofNat j) 2 (by omega)
      have e : dm57 b (Int32.ofNat j) 2 s = some v := e
      obtain ⟨v2, e2⟩ := k129 h.1 (Int32.ofNat j)
      rw [dm134_4, h.2, if_neg (fun q => by have := (nle_iff (by omega) (by omega)).mp q; omega), e]
      simp only [bu_some]
      rw [e2]
      simp only [bu_some]
      split
      · exact f48 x6 s h
      · split
        · exact f25
        · split
          · split
            · exact f48 x6 s h
            · exact f25
          · exact f48 x6 s h
  exact loop N 0 5000 0 s h (by omega) (by omega)
/-- what is a tree, weakly -/
def TW (s : aS) (b : Nat) : Prop := ∃ N u, N ≤ 128 ∧ sI s b 2 = Int32.ofNat N ∧ TL s b u ∧ ∀ k, k < N → ∃ l, NL s b k u l ∧ okT l
set_option maxRecDepth 100000 in
theorem KD.w (h : KD s b i) : TW s b := by
  obtain ⟨⟨N, u, a1, a2, a3, -, a5⟩, -⟩ := h
  exact ⟨N, u, a1, a2, a3, a5⟩
set_option maxRecDepth 100000 in
theorem TW.of {A : Nat → Nat → Prop} {s s1 : aS} {b : Nat} (h : TW s b) (g : ch A s s1) (h0 : ¬ A b 2) (h1 : ∀ k, ¬ A (b + 1) k) (h2 : ¬ A (b + 2) 1) (h3 : ∀ k, ¬ A (b + 3) k) : TW s1 b := by
  obtain ⟨N, u, a1, a2, a3, a5⟩ := h
  refine ⟨N, u, a1, (g.i h0).trans a2, a3.of g h2 h3, fun k hk => ?_⟩
  obtain ⟨l, ⟨st, e1, e2, e3, e4⟩, e5⟩ := a5 k hk
  exact ⟨l, ⟨st, (g.i (h1 _)).trans e1, (g.i (h1 _)).trans e2, e3, e4⟩, e5⟩
set_option maxRecDepth 100000 in
theorem k127 {tt : Nat} {cc : Nat → Nat → Int32} {s : aS} {b c : Nat} (hl : Ly tt cc s) (hb : aK s b 3) (hc : aK s c 3) (hbc : b ≠ c) (h : TW s c) : ∃ s', dm127 b c s = some s' ∧ TW s' b ∧ ch (fun a _ => a = b ∨ a = b + 1 ∨ a = b + 2 ∨ a = b + 3) s s' := by
  obtain ⟨N, u, a1, a2, hu, a5⟩ := h
  have ap := tr_ne hl hb hc hbc
  have b3 := (hl.tr hb).2.2.2.2.2.2.1
  have c3 := (hl.tr hc).2.2.2.2.2.2.1
  have b0 := (hl.tr hb).1
  have j0 : jN 0 = 0 := rfl
  have j1 : jN 1408 = 1408 := rfl
  have n1 : b ≠ c + 1 := by
    rintro e
    have := (hl.tr hc).2.2.2.2.1
    rw [← e, b0] at this
    cases this
  have n2 : b ≠ c + 2 := by
    rintro e
    have := (hl.tr hc).2.2.2.2.2.1
    rw [← e, b0] at this
    cases this
  have n3 : b ≠ c + 3 := by
    rintro e
    rw [← e, b0] at c3
    cases c3
  have hc1 : ch (fun a _ => a = b ∨ a = b + 1 ∨ a = b + 2 ∨ a = b + 3) s (cpI (wI s b 2 (sI s c 2)) (c + 1) 0 (b + 1) 0 1408) := ch_cp ((ch.refl _ s).wI (Or.inl rfl)) (fun _ => Or.inr (Or.inl rfl))
  have hu1 : LT (cpI (wI s b 2 (sI s c 2)) (c + 1) 0 (b + 1) 0 1408) (c + 2) u := hu.1.of hc1 (by omega) (fun _ => by omega)
  obtain ⟨s', g1, g2, g3⟩ := d41 (b0 := b + 2) (m := 256) hu1 (by omega) (by rw [hc1.2.1, show b + 2 + 1 = b + 3 from rfl, b3]) (by rw [hc1.2.1, show c + 2 + 1 = c + 3 from rfl, c3]; exact hu.2.1) (by decide) hu.2.1 hu.2.2
  have hf : ∀ q, q < 1408 → sI s' (b + 1) q = sI s (c + 1) q := by
    intro q hq
    rw [g3.i (by omega), sI_cp, if_pos ⟨rfl, by omega, by omega⟩, Nat.zero_add, Nat.sub_zero, sI_wI, if_neg (by omega)]
  refine ⟨s', ?_, ⟨N, u, a1, ?_, ⟨g2, hu.2⟩, fun k hk => ?_⟩, hc1.trans (g3.mono fun a k q => by omega)⟩
  · unfold dm127
    rw [nx_eq, if_pos ⟨by omega, by decide, by decide, by decide, by decide, by decide⟩, nx_eq, j0, j1, g1]
    rfl
  · rw [g3.i (by omega), sI_cp, if_neg (by omega), sI_wI, if_pos ⟨rfl, rfl⟩]
    exact a2
  · obtain ⟨l, ⟨st, r1, r2, r3, r4⟩, r5⟩ := a5 k hk
    exact ⟨l, ⟨st, (hf _ (by omega)).trans r1, (hf _ (by omega)).trans r2, r3, r4⟩, r5⟩
end KK
end
section
/-! what holds of FormulaTrees between calls, weakly: every tree is one -/
def RD (s : aS) : Prop := (∃ hd, LT s 107 hd ∧ hd.length ≤ 256 ∧ okT hd) ∧ (∃ m, m ≤ 128 ∧ sI s 110 2 = Int32.ofNat m) ∧ ∃ o, o ≤ 32 ∧ sI s 113 3 = Int32.ofNat o
def CV (s : aS) (t : List Int32) (ns : List (List Int32)) : Prop := (LT s 79 t ∧ t.length ≤ 256 ∧ okT t) ∧ (SQ s ns ∧ nsOk ns) ∧ TD s ∧ (∀ b, aK s b 3 → TW s b) ∧ RD s
section CVs
variable {tt : Nat} {cc : Nat → Nat → Int32} {s s1 : aS} {t : List Int32} {ns : List (List Int32)} {A : Nat → Nat → Prop} {b : Nat}
set_option maxRecDepth 100000 in
theorem SQ.of (h : SQ s ns) (h8 : ns.length ≤ 8) (g : ch A s s1) (hA : ∀ a k, A a k → a < 81 ∨ 99 < a) : SQ s1 ns := ⟨⟨(g.i fun q => by have := hA _ _ q; omega).trans h.1.1, fun i hi => (h.1.2 i hi).of g (fun q => by have := hA _ _ q; omega) (fun j q => by have := hA _ _ q; omega)⟩, fun i hi => (g.i fun q => by have := hA _ _ q; omega).trans (h.2 i hi)⟩
set_option maxRecDepth 100000 in
theorem RD.of (h : RD s) (g : ch A s s1) (hA : ∀ a k, A a k → a < 107 ∨ 116 < a) : RD s1 := by
  obtain ⟨⟨hd, a1, a2, a3⟩, ⟨m, b1, b2⟩, o, c1, c2⟩ := h
  exact ⟨⟨hd, a1.of g (fun q => by have := hA _ _ q; omega) (fun j q => by have := hA _ _ q; omega), a2, a3⟩, ⟨m, b1, (g.i fun q => by have := hA _ _ q; omega).trans b2⟩, o, c1, (g.i fun q => by have := hA _ _ q; omega).trans c2⟩
set_option maxRecDepth 100000 in
/-- what lies in no tree -/
theorem CV.of (h : CV s t ns) (hl : Ly tt cc s) (g : ch A s s1) (hA : ∀ a k, A a k → a = 101 ∨ (117 ≤ a ∧ a ≤ 148)) : CV s1 t ns := by
  obtain ⟨⟨a1, a2⟩, ⟨b1, b2⟩, c1, d1, e1⟩ := h
  refine ⟨⟨a1.of g (fun q => by have := hA _ _ q; omega) (fun j q => by have := hA _ _ q; omega), a2⟩, ⟨b1.of b2.1 g (fun a k q => by have := hA _ _ q; omega), b2⟩, c1.of g (fun k q => by have := hA _ _ q; omega) (fun q => by have := hA _ _ q; omega), fun b hb => ?_, e1.of g (fun a k q => by have := hA _ _ q; omega)⟩
  have hb := g.k.mp hb
  have h3 := tr_at hl hb
  exact (d1 b hb).of g (fun q => by have := hA _ _ q; omega) (fun k q => by have := hA _ _ q; omega) (fun q => by have := hA _ _ q; omega) (fun k q => by have := hA _ _ q; omega)
set_option maxRecDepth 100000 in
/-- one tree is changed -/
theorem CV.tree (h : CV s t ns) (hl : Ly tt cc s) (hb : aK s b 3) (g : ch A s s1) (hA : ∀ a k, A a k → a = 101 ∨ a = b ∨ a = b + 1 ∨ a = b + 2 ∨ a = b + 3) (hw : TW s1 b) : CV s1 t ns := by
  obtain ⟨⟨a1, a2⟩, ⟨b1, b2⟩, c1, d1, e1⟩ := h
  have hb3 := tr_at hl hb
  refine ⟨⟨a1.of g (fun q => by have := hA _ _ q; omega) (fun j q => by have := hA _ _ q; omega), a2⟩, ⟨b1.of b2.1 g (fun a k q => by have := hA _ _ q; omega), b2⟩, c1.of g (fun k q => by have := hA _ _ q; omega) (fun q => by have := hA _ _ q; omega), fun c hc => ?_, e1.of g (fun a k q => by have := hA _ _ q; omega)⟩
  by_cases e : c = b
  · rw [e]
    exact hw
  · have hc := g.k.mp hc
    have h3 := tr_at hl hc
    have p := tr_ne hl hc hb e
    have q := tr_ne hl hb hc (fun z => e z.symm)
    exact (d1 c hc).of g (fun z => by have := hA _ _ z; omega) (fun k z => by have := hA _ _ z; omega) (fun z => by have := hA _ _ z; omega) (fun k z => by have := hA _ _ z; omega)
/-- more cells, the old ones as they were -/
def gx (s s1 : aS) : Prop := sL s ≤ sL s1 ∧ ∀ a, a < sL s → sT s1 a = sT s a ∧ (∀ k, sI s1 a k = sI s a k) ∧ ∀ k, sR s1 a k = sR s a k
set_option maxRecDepth 100000 in
theorem gx_nw (s : aS) (c n : Nat) : gx s (nw s c n) := ⟨Nat.le_succ _, fun a ha => ⟨sT_nw ha, fun k => sI_nw ha, fun k => sR_nw ha⟩⟩
set_option maxRecDepth 100000 in
theorem gx_nT (s : aS) : gx s (nTree s) := ⟨by rw [nTree_L]; omega, fun a ha => ⟨nT_T ha, fun k => nT_I ha, fun k => nT_R ha⟩⟩
set_option maxRecDepth 100000 in
theorem LT.gx (h : LT s b t) (g : gx s s1) (hb : b + 1 < sL s) : LT s1 b t := ⟨((g.2 b (by omega)).2.1 1).trans h.1, fun j hj => ((g.2 (b + 1) hb).2.1 j).trans (h.2 j hj)⟩
set_option maxRecDepth 100000 in
theorem gx.k (g : gx s s1) {c : Nat} (h : aK s b c) : aK s1 b c := ⟨Nat.lt_of_lt_of_le h.1 g.1, by rw [(g.2 b h.1).1]; exact h.2⟩
set_option maxRecDepth 100000 in
theorem TW.gx (h : TW s b) (g : gx s s1) (hb : b + 3 < sL s) : TW s1 b := by
  obtain ⟨N, u, a1, a2, a3, a5⟩ := h
  refine ⟨N, u, a1, ((g.2 b (by omega)).2.1 2).trans a2, ⟨a3.1.gx g (by omega), a3.2⟩, fun k hk => ?_⟩
  obtain ⟨l, ⟨st, e1, e2, e3, e4⟩, e5⟩ := a5 k hk
  exact ⟨l, ⟨st, ((g.2 (b + 1) (by omega)).2.1 _).trans e1, ((g.2 (b + 1) (by omega)).2.1 _).trans e2, e3, e4⟩, e5⟩
set_option maxRecDepth 100000 in
theorem SQ.gx (h : SQ s ns) (h8 : ns.length ≤ 8) (g : gx s s1) (hL : 149 ≤ sL s) : SQ s1 ns := ⟨⟨((g.2 81 (by omega)).2.1 2).trans h.1.1, fun i hi => (h.1.2 i hi).gx g (by omega)⟩, fun i hi => ((g.2 83 (by omega)).2.1 i).trans (h.2 i hi)⟩
set_option maxRecDepth 100000 in
theorem TD.gx (h : TD s) (g : gx s s1) (hL : 149 ≤ sL s) : TD s1 := by
  obtain ⟨a1, a2, b, b1, b2, b3⟩ := h
  have e : ∀ f, sR s1 100 f = sR s 100 f := fun f => (g.2 100 (by omega)).2.2 f
  refine ⟨fun f hf => ?_, fun f g9 b9 hf hg q1 q2 => a2 f g9 b9 hf hg (by rw [← e]; exact q1) (by rw [← e]; exact q2), b, ((g.2 78 (by omega)).2.2 6).trans b1, g.k b2, fun f hf => by rw [e]; exact b3 f hf⟩
  rw [e]
  rcases a1 f hf with q | ⟨c, q1, q2⟩
  · exact Or.inl q
  · exact Or.inr ⟨c, q1, g.k q2⟩
set_option maxRecDepth 100000 in
theorem RD.gx (h : RD s) (g : gx s s1) (hL : 149 ≤ sL s) : RD s1 := by
  obtain ⟨⟨hd, a1, a2, a3⟩, ⟨m, b1, b2⟩, o, c1, c2⟩ := h
  exact ⟨⟨hd, a1.gx g (by omega), a2, a3⟩, ⟨m, b1, ((g.2 110 (by omega)).2.1 2).trans b2⟩, o, c1, ((g.2 113 (by omega)).2.1 3).trans c2⟩
set_option maxRecDepth 100000 in
theorem CV.gx (h : CV s t ns) (hl : Ly tt cc s) (g : gx s s1) (hn : ∀ b, aK s1 b 3 → sL s ≤ b → TW s1 b) : CV s1 t ns := by
  obtain ⟨⟨a1, a2⟩, ⟨b1, b2⟩, c1, d1, e1⟩ := h
  have hL : 149 ≤ sL s := hl.1
  refine ⟨⟨a1.gx g (by omega), a2⟩, ⟨b1.gx b2.1 g hL, b2⟩, c1.gx g hL, fun b hb => ?_, e1.gx g hL⟩
  by_cases hbl : b < sL s
  · have hb0 : aK s b 3 := ⟨hbl, by rw [← (g.2 b hbl).1]; exact hb.2⟩
    exact (d1 b hb0).gx g (hl.tr hb0).2.2.2.1
  · exact hn b hb (by omega)
set_option maxRecDepth 100000 in
theorem CV.thr (h : CV s t ns) (hl : Ly tt cc s) {c : Nat} (hc : c ≠ 3) : CV (nw s c 0) t ns := h.gx hl (gx_nw s c 0) fun b hb hbl => by
  have h1 : b < sL s + 1 := hb.1
  have e : b = sL s := by omega
  subst e
  have h2 : (sT (nw s c 0) (sL s)).1 = 3 := hb.2
  rw [show sT (nw s c 0) (sL s) = (c, 0) from if_pos rfl] at h2
  exact absurd h2 hc
/-- how much a call makes -/
def gw (s s1 : aS) : Prop := sL s1 ≤ sL s + 8 ∧ aSz s1 ≤ aSz s + 3000
set_option maxRecDepth 100000 in
theorem aSz_ch (g : ch A s s1) : aSz s1 = aSz s := by
  unfold aSz
  rw [g.1]
  congr 1
  exact List.map_congr_left fun a _ => by rw [g.2.1]
set_option maxRecDepth 100000 in
theorem gw_ch (g : ch A s s1) : gw s s1 := ⟨by rw [g.1]; omega, by rw [aSz_ch g]; omega⟩
set_option maxRecDepth 100000 in
theorem gw_nw (s : aS) {c : Nat} : gw s (nw s c 0) := ⟨by rw [sL_nw]; omega, by
  rw [aSz_nw]
  unfold wt
  split
  · omega
  · exact Nat.le_add_right _ _⟩
/-- how a call of FormulaTrees comes to its end: p says of what it answers -/
def Cm (s : aS) (t : List Int32) (ns : List (List Int32)) (p : xZ → Prop) (D : Option (xZ × aS)) : Prop := ∃ o s1, D = some (o, s1) ∧ p o ∧ CV s1 t ns ∧ gw s s1
variable {p : xZ → Prop}
set_option maxRecDepth 100000 in
theorem Cm.x (h : CV s t ns) (hl : Ly tt cc s) {z y : Nat} (hp : p (.inr z)) (hy : y ≠ 3) : Cm s t ns p (some (.inr z, nw s y 0)) := ⟨_, _, rfl, hp, h.thr hl hy, gw_nw s⟩
set_option maxRecDepth 100000 in
theorem Cm.v (h : CV s t ns) {o : xZ} (hp : p o) : Cm s t ns p (some (o, s)) := ⟨_, _, rfl, hp, h, gw_ch (ch.refl (fun _ _ => False) s)⟩
set_option maxRecDepth 100000 in
theorem y55 (x : Int32) : (¬ (0 ≤ x.toInt ∧ x.toInt < 8) ∧ dm55 x = some 0) ∨ ((0 ≤ x.toInt ∧ x.toInt < 8) ∧ dm55 x = some 1) := by
  unfold dm55
  have l1 : x < 0 ↔ x.toInt < 0 := iLt
  have l2 : 8 ≤ x ↔ 8 ≤ x.toInt := iLe
  by_cases c1 : x < 0
  · left
    rw [if_pos c1]
    exact ⟨fun q => by have := l1.mp c1; omega, rfl⟩
  · rw [if_neg c1]
    have c1 : ¬ x.toInt < 0 := fun q => c1 (l1.mpr q)
    by_cases c2 : 8 ≤ x
    · left
      rw [if_pos c2]
      exact ⟨fun q => by have := l2.mp c2; omega, rfl⟩
    · right
      rw [if_neg c2]
      have c2 : ¬ 8 ≤ x.toInt := fun q => c2 (l2.mpr q)
      exact ⟨by omega, rfl⟩
set_option maxRecDepth 100000 in
theorem y54 (ht : TD s) (x : Int32) : dm54 x s = some .null ∨ ∃ b, dm54 x s = some (.ref b) ∧ aK s b 3 ∧ (0 ≤ x.toInt ∧ x.toInt < 8) ∧ sR s 100 x.toInt.toNat = .ref b := by
  unfold dm54
  rcases y55 x with ⟨-, e⟩ | ⟨hx, e⟩
  · left
    rw [e]
    rfl
  · rw [e]
    simp only [bu_some]
    rw [if_neg (by decide), if_pos (aB_iff.mpr hx)]
    by_cases c : sI s 101 (jN x) = -1
    · left
      rw [if_pos c]
    · rw [if_neg c, if_pos (aB_iff.mpr hx)]
      rcases ht.1 x.toInt.toNat (by omega) with z | ⟨b, z1, z2⟩
      · left
        rw [show sR s 100 (jN x) = .null from z]
        rfl
      · right
        rw [show sR s 100 (jN x) = .ref b from z1, vN_ref, if_pos z2]
        exact ⟨b, rfl, z2, hx, z1⟩
set_option maxRecDepth 100000 in
theorem y57 (h : TW s b) (x : Int32) (w : Nat) (hw : w < 11) : ∃ v, dm57 b x (Int32.ofNat w) s = some v ∧ (w = 10 → v.toInt ≤ 256) := by
  obtain ⟨N, u, b1, b2, b3, b4⟩ := h
  by_cases c : 0 ≤ x.toInt ∧ x.toInt < N
  · obtain ⟨k, hk⟩ : ∃ k, k = x.toInt.toNat := ⟨_, rfl⟩
    have ex : x = Int32.ofNat k := by rw [hk]; exact ofNat_of c.1
    rw [ex, d57 b2 b1 (by omega) hw]
    refine ⟨_, rfl, fun q => ?_⟩
    subst q
    obtain ⟨l, ⟨st, e1, e2, e3, e4⟩, -⟩ := b4 k (by omega)
    have := b3.2.1
    rw [e2, iOfNat (by omega)]
    omega
  · refine ⟨-1, ?_, fun _ => by decide⟩
    unfold dm57 dm57_13 dm57_14
    by_cases c1 : x < 0
    · rw [if_pos c1, if_pos rfl]
    · have z1 : ¬ x.toInt < 0 := fun q => c1 (iLt.mpr q)
      have c2 : sI s b 2 ≤ x := by
        rw [b2, iLe, iOfNat (by omega)]
        omega
      rw [if_neg c1, if_pos c2, if_pos rfl]
set_option maxRecDepth 100000 in
theorem y144 (h : TW s b) (hT : (sT s (b + 3)).2 = 256) (x y : Int32) : ∃ v, dm144 b x y s = some v := by
  obtain ⟨v9, e9, -⟩ := y57 h x 9 (by omega)
  obtain ⟨v10, e10, -⟩ := y57 h x 10 (by omega)
  have e9 : dm57 b x 9 s = some v9 := e9
  have e10 : dm57 b x 10 s = some v10 := e10
  obtain ⟨N, u, b1, b2, b3, b4⟩ := h
  obtain ⟨w, ew⟩ := c34 (x := v9 + y) b3.1 (by show u.length ≤ (sT s (b + 3)).2; rw [hT]; exact b3.2.1) (by have := b3.2.1; omega)
  unfold dm144 dm144_10 dm144_11
  rw [e10, e9]
  simp only [bu_some]
  rw [ew]
  simp only [bu_some]
  repeat' split
  all_goals exact ⟨_, rfl⟩
end CVs
end
section
/-! calls of FormulaTrees that tell of trees come to their end -/
def pI (o : xZ) : Prop := (∃ v, o = .inl (some (.int v))) ∨ o = .inr 2
def pJ (o : xZ) : Prop := (∃ v, o = .inl (some (.int v))) ∨ o = .inr 2 ∨ o = .inr 0
def pC (o : xZ) : Prop := (∃ v, o = .inl (some (.int v))) ∨ o = .inr 0
def pN (o : xZ) : Prop := o = .inl none ∨ o = .inr 2
def pM (o : xZ) : Prop := o = .inl none ∨ o = .inr 2 ∨ o = .inr 0
section CVs
variable {tt : Nat} {xs : List Int32} {s : aS} {t : List Int32} {ns : List (List Int32)} {b : Nat}
set_option maxRecDepth 100000 in
theorem y138 (h : CV s t ns) (hl : Ly tt (cCc xs) s) (x k : Int32) : Cm s t ns pI (dm138 x k s) := by
  unfold dm138
  rcases y54 h.2.2.1 x with e | ⟨b, e, e2, e3, e4⟩
  · rw [e]
    simp only [bu_some, vN_null]
    exact Cm.x h hl (Or.inr rfl) (by decide)
  · rw [e]
    simp only [bu_some, vN_ref]
    rw [if_pos e2]
    obtain ⟨N, u, w1, w2, w3, w4⟩ := h.2.2.2.1 b e2
    obtain ⟨v, s1, g1, g2⟩ := c139 (ns := ns) e2 (tr_at hl e2) ⟨N, u, w1, w2, w3, fun k hk => by
      obtain ⟨l, q, -⟩ := w4 k hk
      exact ⟨l, q⟩⟩ (by rw [(hl.tr e2).2.2.2.2.2.2.1]) h.2.1.1.1 h.2.1.2 (RC.ly hl) (AS.ly hl) k
    rw [g1]
    simp only [bv_some]
    exact ⟨_, s1, rfl, Or.inl ⟨v, rfl⟩, h.of hl g2 (fun a k z => Or.inr (by omega)), gw_ch g2⟩
set_option maxRecDepth 100000 in
theorem y137 (h : CV s t ns) (hl : Ly tt (cCc xs) s) (x : Int32) : Cm s t ns pN (dm137 x s) := by
  unfold dm137
  rcases y54 h.2.2.1 x with e | ⟨b, e, e2, e3, e4⟩
  · rw [e]
    simp only [bu_some, vN_null]
    exact Cm.x h hl (Or.inr rfl) (by decide)
  · rw [e]
    simp only [bu_some, vN_ref]
    rw [if_pos e2, if_pos (aB_iff.mpr e3), nx_eq]
    have g : ch (fun a _ => a = 101) s (wI s 101 (jN x) (-1)) := (ch.refl _ s).wI rfl
    exact ⟨_, _, rfl, Or.inl rfl, h.of hl g (fun a k z => Or.inl z), gw_ch g⟩
set_option maxRecDepth 100000 in
theorem y159 (h : CV s t ns) (hl : Ly tt (cCc xs) s) (x : Int32) : Cm s t ns pI (dm159 x s) := by
  unfold dm159
  rcases y54 h.2.2.1 x with e | ⟨b, e, e2, e3, e4⟩
  · rw [e]
    simp only [bu_some, vN_null]
    exact Cm.x h hl (Or.inr rfl) (by decide)
  · rw [e]
    simp only [bu_some, vN_ref]
    rw [if_pos e2]
    unfold dm94
    simp only [bu_some]
    exact Cm.v h (Or.inl ⟨_, rfl⟩)
set_option maxRecDepth 100000 in
theorem y161 (b : Nat) (x : Int32) (s : aS) : ∃ r, dm161 b x s = some r := by
  unfold dm161
  repeat' split
  all_goals exact ⟨_, rfl⟩
set_option maxRecDepth 100000 in
theorem y160 (h : CV s t ns) (hl : Ly tt (cCc xs) s) (x y z : Int32) : Cm s t ns pJ (dm160 x y z s) := by
  unfold dm160 dm160_10 dm160_20
  rcases y54 h.2.2.1 x with e | ⟨b, e, e2, e3, e4⟩
  · rw [e]
    simp only [bu_some, vN_null]
    exact Cm.x h hl (Or.inr (Or.inl rfl)) (by decide)
  · rw [e]
    simp only [bu_some, vN_ref]
    obtain ⟨r, er⟩ := y161 b y s
    rw [if_pos e2, er]
    simp only [bu_some]
    split
    · exact Cm.x h hl (Or.inr (Or.inl rfl)) (by decide)
    · split
      · exact Cm.x h hl (Or.inr (Or.inr rfl)) (by decide)
      · rename_i c1
        split
        · rename_i c2
          have z1 : ¬ z.toInt < 0 := fun q => c1 (iLt.mpr q)
          have z2 : z.toInt < 9 := iLt.mp c2
          have ez : z = Int32.ofNat z.toInt.toNat := ofNat_of (by omega)
          obtain ⟨v, ev, -⟩ := y57 (h.2.2.2.1 b e2) y z.toInt.toNat (by omega)
          rw [← ez] at ev
          rw [ev]
          simp only [bu_some]
          exact Cm.v h (Or.inl ⟨v, rfl⟩)
        · exact Cm.x h hl (Or.inr (Or.inr rfl)) (by decide)
set_option maxRecDepth 100000 in
theorem y162 (h : CV s t ns) (hl : Ly tt (cCc xs) s) (x y z : Int32) : Cm s t ns pI (dm162 x y z s) := by
  unfold dm162 dm162_10
  rcases y54 h.2.2.1 x with e | ⟨b, e, e2, e3, e4⟩
  · rw [e]
    simp only [bu_some, vN_null]
    exact Cm.x h hl (Or.inr rfl) (by decide)
  · rw [e]
    simp only [bu_some, vN_ref]
    obtain ⟨r, er⟩ := y161 b y s
    rw [if_pos e2, er]
    simp only [bu_some]
    split
    · exact Cm.x h hl (Or.inr rfl) (by decide)
    · obtain ⟨v, ev⟩ := y144 (h.2.2.2.1 b e2) (by rw [(hl.tr e2).2.2.2.2.2.2.1]) y z
      rw [ev]
      simp only [bu_some]
      exact Cm.v h (Or.inl ⟨v, rfl⟩)
set_option maxRecDepth 100000 in
theorem y165c {b0 b1 : Nat} (h0 : TW s b0) (h1 : TW s b1) (hT0 : (sT s (b0 + 3)).2 = 256) (hT1 : (sT s (b1 + 3)).2 = 256) (x2 : Int32) : ∀ (m j n : Nat) (x3 : Int32), (x3 = 0 ∨ x3 = 1) → j + m = 257 → m < n → ∃ v, dm165_37 n b0 b1 x2 x3 (Int32.ofNat j) s = some v ∧ (v = 0 ∨ v = 1) := by
  obtain ⟨v, e, e9⟩ := y57 h0 x2 10 (by omega)
  have e : dm57 b0 x2 10 s = some v := e
  intro m
  induction m with
  | zero =>
    intro j n x3 h3 h4 h5
    obtain ⟨n, rfl⟩ : ∃ q, n = q + 1 := ⟨n - 1, by omega⟩
    have hj : j = 257 := by omega
    subst hj
    rw [dm165_37, e]
    simp only [bu_some]
    rw [if_pos (iLe.mpr (by rw [iOfNat (by omega)]; have := e9 rfl; omega)), if_pos h3]
    exact ⟨x3, rfl, h3⟩
  | succ m ih =>
    intro j n x3 h3 h4 h5
    obtain ⟨n, rfl⟩ : ∃ q, n = q + 1 := ⟨n - 1, by omega⟩
    obtain ⟨v1, q1⟩ := y144 h0 hT0 x2 (Int32.ofNat j)
    obtain ⟨v2, q2⟩ := y144 h1 hT1 x2 (Int32.ofNat j)
    rw [dm165_37, e]
    simp only [bu_some]
    split
    · exact ⟨x3, rfl, h3⟩
    · split
      · exact ⟨x3, rfl, h3⟩
      · rw [q1]
        simp only [bu_some]
        rw [q2]
        simp only [bu_some]
        unfold dm165_57
        rw [ofNat_succ (by omega)]
        split
        · exact ih (j + 1) n 1 (Or.inr rfl) (by omega) (by omega)
        · exact ih (j + 1) n 0 (Or.inl rfl) (by omega) (by omega)
set_option maxRecDepth 100000 in
theorem y165 {b0 b1 : Nat} (h0 : TW s b0) (h1 : TW s b1) (hT0 : (sT s (b0 + 3)).2 = 256) (hT1 : (sT s (b1 + 3)).2 = 256) (x2 : Int32) : ∃ v, dm165 b0 b1 x2 s = some v ∧ (v = 0 ∨ v = 1) := by
  have f35 : ∀ x3, (x3 = 0 ∨ x3 = 1) → ∃ v, dm165_35 b0 b1 x2 x3 s = some v ∧ (v = 0 ∨ v = 1) := fun x3 h3 => y165c h0 h1 hT0 hT1 x2 257 0 5000 x3 h3 (by omega) (by omega)
  have loop : ∀ (m j n : Nat) (x3 : Int32), (x3 = 0 ∨ x3 = 1) → j + m = 9 → m < n → ∃ v, dm165_15 n b0 b1 x2 x3 (Int32.ofNat j) s = some v ∧ (v = 0 ∨ v = 1) := by
    intro m
    induction m with
    | zero =>
      intro j n x3 h3 h4 h5
      obtain ⟨n, rfl⟩ : ∃ q, n = q + 1 := ⟨n - 1, by omega⟩
      have hj : j = 9 := by omega
      subst hj
      rw [dm165_15, if_pos (by decide)]
      exact f35 x3 h3
    | succ m ih =>
      intro j n x3 h3 h4 h5
      obtain ⟨n, rfl⟩ : ∃ q, n = q + 1 := ⟨n - 1, by omega⟩
      obtain ⟨v1, q1, -⟩ := y57 h0 x2 j (by omega)
      obtain ⟨v2, q2, -⟩ := y57 h1 x2 j (by omega)
      rw [dm165_15]
      split
      · exact f35 x3 h3
      · split
        · exact f35 x3 h3
        · rw [q1]
          simp only [bu_some]
          rw [q2]
          simp only [bu_some]
          unfold dm165_32
          rw [ofNat_succ (by omega)]
          split
          · exact ih (j + 1) n 1 (Or.inr rfl) (by omega) (by omega)
          · exact ih (j + 1) n 0 (Or.inl rfl) (by omega) (by omega)
  have f12 : ∀ x3, (x3 = 0 ∨ x3 = 1) → ∃ v, dm165_12 b0 b1 x2 x3 s = some v ∧ (v = 0 ∨ v = 1) := fun x3 h3 => loop 9 0 5000 x3 h3 (by omega) (by omega)
  obtain ⟨v1, q1, -⟩ := y57 h0 x2 10 (by omega)
  obtain ⟨v2, q2, -⟩ := y57 h1 x2 10 (by omega)
  have q1 : dm57 b0 x2 10 s = some v1 := q1
  have q2 : dm57 b1 x2 10 s = some v2 := q2
  unfold dm165
  rw [q1]
  simp only [bu_some]
  rw [q2]
  simp only [bu_some]
  split
  · exact f12 1 (Or.inr rfl)
  · exact f12 0 (Or.inl rfl)
set_option maxRecDepth 100000 in
theorem y164 {b0 b1 : Nat} (h0 : TW s b0) (h1 : TW s b1) (hT0 : (sT s (b0 + 3)).2 = 256) (hT1 : (sT s (b1 + 3)).2 = 256) : ∃ v, dm164 b0 b1 s = some v ∧ (v = 0 ∨ v = 1) := by
  have h00 := h0
  obtain ⟨N, u, a1, a2, -⟩ := h00
  have loop : ∀ (m j n : Nat) (x3 : Int32), (x3 = 0 ∨ x3 = 1) → j + m = N → m < n → ∃ v, dm164_11 n b0 b1 x3 (Int32.ofNat j) s = some v ∧ (v = 0 ∨ v = 1) := by
    intro m
    induction m with
    | zero =>
      intro j n x3 h3 h4 h5
      obtain ⟨n, rfl⟩ : ∃ q, n = q + 1 := ⟨n - 1, by omega⟩
      rw [dm164_11, a2, if_pos ((nle_iff (by omega) (by omega)).mpr (by omega)), if_pos h3]
      exact ⟨x3, rfl, h3⟩
    | succ m ih =>
      intro j n x3 h3 h4 h5
      obtain ⟨n, rfl⟩ : ∃ q, n = q + 1 := ⟨n - 1, by omega⟩
      obtain ⟨v, q1, q2⟩ := y165 h0 h1 hT0 hT1 (Int32.ofNat j)
      rw [dm164_11]
      split
      · exact ⟨x3, rfl, h3⟩
      · split
        · exact ⟨x3, rfl, h3⟩
        · rw [q1]
          simp only [bu_some]
          rw [ofNat_succ (by omega)]
          exact ih (j + 1) n v q2 (by omega) (by omega)
  have f8 : ∀ x3, (x3 = 0 ∨ x3 = 1) → ∃ v, dm164_8 b0 b1 x3 s = some v ∧ (v = 0 ∨ v = 1) := fun x3 h3 => loop N 0 5000 x3 h3 (by omega) (by omega)
  unfold dm164
  split
  · exact f8 1 (Or.inr rfl)
  · exact f8 0 (Or.inl rfl)
set_option maxRecDepth 100000 in
theorem y163 (h : CV s t ns) (hl : Ly tt (cCc xs) s) (x y : Int32) : Cm s t ns pI (dm163 x y s) := by
  unfold dm163 dm163_12
  rcases y54 h.2.2.1 x with e | ⟨b, e, e2, e3, e4⟩
  · rw [e]
    simp only [bu_some, vN_null]
    rcases y54 h.2.2.1 y with f | ⟨c, f, f2, f3, f4⟩
    · rw [f]
      simp only [bu_some, vN_null]
      exact Cm.x h hl (Or.inr rfl) (by decide)
    · rw [f]
      simp only [bu_some, vN_ref]
      rw [if_pos f2]
      exact Cm.x h hl (Or.inr rfl) (by decide)
  · rw [e]
    simp only [bu_some, vN_ref]
    rw [if_pos e2]
    rcases y54 h.2.2.1 y with f | ⟨c, f, f2, f3, f4⟩
    · rw [f]
      simp only [bu_some, vN_null]
      exact Cm.x h hl (Or.inr rfl) (by decide)
    · rw [f]
      simp only [bu_some, vN_ref]
      obtain ⟨v, ev, hv⟩ := y164 (h.2.2.2.1 b e2) (h.2.2.2.1 c f2) (by rw [(hl.tr e2).2.2.2.2.2.2.1]) (by rw [(hl.tr f2).2.2.2.2.2.2.1])
      rw [if_pos f2, ev]
      simp only [bu_some]
      rw [if_pos hv]
      exact Cm.v h (Or.inl ⟨v, rfl⟩)
set_option maxRecDepth 100000 in
theorem y168 (s : aS) : ∃ v, dm168 s = some v := by
  have loop : ∀ (m j n : Nat) (x : Int32), j + m = 8 → m < n → ∃ v, dm168_4 n x (Int32.ofNat j) s = some v := by
    intro m
    induction m with
    | zero =>
      intro j n x h4 h5
      obtain ⟨n, rfl⟩ : ∃ q, n = q + 1 := ⟨n - 1, by omega⟩
      have hj : j = 8 := by omega
      subst hj
      rw [dm168_4, if_pos (by decide)]
      exact ⟨x, rfl⟩
    | succ m ih =>
      intro j n x h4 h5
      obtain ⟨n, rfl⟩ : ∃ q, n = q + 1 := ⟨n - 1, by omega⟩
      rw [dm168_4]
      split
      · exact ⟨x, rfl⟩
      · rw [if_pos (aB_of (by omega) (by omega))]
        unfold dm168_19
        rw [ofNat_succ (by omega)]
        split
        · exact ih (j + 1) n _ (by omega) (by omega)
        · exact ih (j + 1) n _ (by omega) (by omega)
  exact loop 8 0 5000 0 (by omega) (by omega)
set_option maxRecDepth 100000 in
theorem y166 (h : CV s t ns) (hl : Ly tt (cCc xs) s) (x : Int32) : Cm s t ns pC (dm166 x s) := by
  unfold dm166 dm166_5
  split
  · exact Cm.x h hl (Or.inr rfl) (by decide)
  · rename_i c1
    split
    · rename_i c2
      split
      · unfold dm167
        simp only [bu_some]
        exact Cm.v h (Or.inl ⟨_, rfl⟩)
      · rename_i c3
        split
        · obtain ⟨v, ev⟩ := y168 s
          rw [ev]
          simp only [bu_some]
          exact Cm.v h (Or.inl ⟨_, rfl⟩)
        · rename_i c4
          have z1 : ¬ x.toInt < 0 := fun q => c1 (iLt.mpr q)
          have z2 : x.toInt ≤ 9 := iLe.mp c2
          have z3 : x.toInt ≠ 0 := fun q => c3 (iEq.mpr q)
          have z4 : x.toInt ≠ 1 := fun q => c4 (iEq.mpr q)
          have e2 : (2 : Int32).toInt = 2 := rfl
          rw [if_pos (by rw [aB_iff, iSub (by rw [e2]; omega) (by rw [e2]; omega), e2]; omega)]
          exact Cm.v h (Or.inl ⟨_, rfl⟩)
    · exact Cm.x h hl (Or.inr rfl) (by decide)
set_option maxRecDepth 100000 in
theorem y169 (h : CV s t ns) (hl : Ly tt (cCc xs) s) (x y : Int32) : Cm s t ns pI (dm169 x y s) := by
  rcases d169 h.2.1.1.1 (RC.ly hl) h.2.1.2 x y with ⟨-, e⟩ | ⟨-, e⟩
  · rw [e]
    exact Cm.x h hl (Or.inr rfl) (by decide)
  · rw [e]
    exact Cm.v h (Or.inl ⟨_, rfl⟩)
end CVs
end
section
/-! calls of FormulaTrees that change trees come to their end: means -/
def CU (s : aS) (t : List Int32) (ns : List (List Int32)) : Prop := (LT s 79 t ∧ t.length ≤ 256 ∧ okT t) ∧ (SQ s ns ∧ nsOk ns) ∧ (∀ b, aK s b 3 → TW s b) ∧ RD s
section CVs
variable {tt : Nat} {cc : Nat → Nat → Int32} {s s1 s2 : aS} {t : List Int32} {ns : List (List Int32)} {A : Nat → Nat → Prop} {b c : Nat}
set_option maxRecDepth 100000 in
theorem CV.u (h : CV s t ns) : CU s t ns := ⟨h.1, h.2.1, h.2.2.2⟩
set_option maxRecDepth 100000 in
theorem CU.v (h : CU s t ns) (ht : TD s) : CV s t ns := ⟨h.1, h.2.1, ht, h.2.2⟩
set_option maxRecDepth 100000 in
theorem CU.of (h : CU s t ns) (hl : Ly tt cc s) (g : ch A s s1) (hA : ∀ a k, A a k → a = 78 ∨ a = 100 ∨ a = 101 ∨ (117 ≤ a ∧ a ≤ 148)) : CU s1 t ns := by
  obtain ⟨⟨a1, a2⟩, ⟨b1, b2⟩, d1, e1⟩ := h
  refine ⟨⟨a1.of g (fun q => by have := hA _ _ q; omega) (fun j q => by have := hA _ _ q; omega), a2⟩, ⟨b1.of b2.1 g (fun a k q => by have := hA _ _ q; omega), b2⟩, fun b hb => ?_, e1.of g (fun a k q => by have := hA _ _ q; omega)⟩
  have hb := g.k.mp hb
  have h3 := tr_at hl hb
  exact (d1 b hb).of g (fun q => by have := hA _ _ q; omega) (fun k q => by have := hA _ _ q; omega) (fun q => by have := hA _ _ q; omega) (fun k q => by have := hA _ _ q; omega)
set_option maxRecDepth 100000 in
theorem CU.gx (h : CU s t ns) (hl : Ly tt cc s) (g : gx s s1) (hn : ∀ b, aK s1 b 3 → sL s ≤ b → TW s1 b) : CU s1 t ns := by
  obtain ⟨⟨a1, a2⟩, ⟨b1, b2⟩, d1, e1⟩ := h
  have hL : 149 ≤ sL s := hl.1
  refine ⟨⟨a1.gx g (by omega), a2⟩, ⟨b1.gx b2.1 g hL, b2⟩, fun b hb => ?_, e1.gx g hL⟩
  by_cases hbl : b < sL s
  · have hb0 : aK s b 3 := ⟨hbl, by rw [← (g.2 b hbl).1]; exact hb.2⟩
    exact (d1 b hb0).gx g (hl.tr hb0).2.2.2.1
  · exact hn b hb (by omega)
set_option maxRecDepth 100000 in
/-- a new tree is one -/
theorem nT_w (s : aS) (hL : 149 ≤ sL s) : ∀ b, aK (nTree s) b 3 → sL s ≤ b → TW (nTree s) b := by
  intro b hb hbl
  have h1 : b < sL s + 4 := hb.1
  have h2 : (sT (nTree s) b).1 = 3 := hb.2
  have e : b = sL s := by
    rw [nTree_T] at h2
    by_cases c3 : b = sL s + 3
    · rw [if_pos c3] at h2
      cases h2
    · rw [if_neg c3] at h2
      by_cases c2 : b = sL s + 2
      · rw [if_pos c2] at h2
        cases h2
      · rw [if_neg c2] at h2
        by_cases c1 : b = sL s + 1
        · rw [if_pos c1] at h2
          cases h2
        · omega
  subst e
  refine ⟨0, [], by omega, ?_, ⟨⟨?_, fun j hj => absurd hj (Nat.not_lt_zero j)⟩, Nat.zero_le _, fun y hy => (by cases hy)⟩, fun k hk => absurd hk (Nat.not_lt_zero k)⟩
  · rw [nTree_I, if_neg (by omega), if_neg (by omega), if_neg (by omega), if_pos rfl]
    rfl
  · rw [nTree_I, if_neg (by omega), if_pos rfl]
    rfl
set_option maxRecDepth 100000 in
theorem aSz_nT (s : aS) : aSz (nTree s) = aSz s + 1669 := by
  unfold nTree
  rw [aSz_wR, aSz_wR, aSz_nw, aSz_nw, aSz_wR, aSz_nw, aSz_nw]
  have w1 : wt (3, 3) = 3 := by decide
  have w2 : wt (100, 1408) = 1408 := by decide
  have w3 : wt (1, 2) = 2 := by decide
  have w4 : wt (102, 256) = 256 := by decide
  rw [w1, w2, w3, w4]
set_option maxRecDepth 100000 in
theorem gw_nT (s : aS) : gw s (nTree s) := ⟨by rw [nTree_L]; omega, by rw [aSz_nT]; omega⟩
set_option maxRecDepth 100000 in
theorem gw.tr (h : gw s s1) (g : ch A s1 s2) : gw s s2 := ⟨by rw [g.1]; exact h.1, by rw [aSz_ch g]; exact h.2⟩
set_option maxRecDepth 100000 in
theorem gw.d (g : ch A s s1) (h : gw s1 s2) : gw s s2 := ⟨by rw [← g.1]; exact h.1, by rw [← aSz_ch g]; exact h.2⟩
set_option maxRecDepth 100000 in
/-- the reader has run -/
theorem CV.rd (h : CV s t ns) (hl : Ly tt cc s) (hb : aK s b 3) (g : ch A s s1) (hA : ∀ a k, A a k → a = b ∨ a = b + 1 ∨ a = b + 2 ∨ a = b + 3 ∨ (106 ≤ a ∧ a ≤ 116)) (hw : TW s1 b) (hr : RD s1) : CV s1 t ns := by
  obtain ⟨⟨a1, a2⟩, ⟨b1, b2⟩, c1, d1, e1⟩ := h
  have hb3 := tr_at hl hb
  refine ⟨⟨a1.of g (fun q => by have := hA _ _ q; omega) (fun j q => by have := hA _ _ q; omega), a2⟩, ⟨b1.of b2.1 g (fun a k q => by have := hA _ _ q; omega), b2⟩, c1.of g (fun k q => by have := hA _ _ q; omega) (fun q => by have := hA _ _ q; omega), fun c hc => ?_, hr⟩
  by_cases e : c = b
  · rw [e]
    exact hw
  · have hc := g.k.mp hc
    have h3 := tr_at hl hc
    have p := tr_ne hl hc hb e
    have q := tr_ne hl hb hc (fun z => e z.symm)
    exact (d1 c hc).of g (fun z => by have := hA _ _ z; omega) (fun k z => by have := hA _ _ z; omega) (fun z => by have := hA _ _ z; omega) (fun k z => by have := hA _ _ z; omega)
set_option maxRecDepth 100000 in
/-- names are changed -/
theorem CV.nm {ns1 : List (List Int32)} (h : CV s t ns) (hl : Ly tt cc s) (g : ch (fun a _ => 81 ≤ a ∧ a ≤ 99) s s1) (hq : SQ s1 ns1) (hn : nsOk ns1) : CV s1 t ns1 := by
  obtain ⟨⟨a1, a2⟩, -, c1, d1, e1⟩ := h
  refine ⟨⟨a1.of g (by omega) (fun j => by omega), a2⟩, ⟨hq, hn⟩, c1.of g (fun k => by omega) (by omega), fun b hb => ?_, e1.of g (fun a k q => by omega)⟩
  have hb := g.k.mp hb
  have h3 := tr_at hl hb
  exact (d1 b hb).of g (by omega) (fun k => by omega) (by omega) (fun k => by omega)
set_option maxRecDepth 100000 in
/-- the text is changed -/
theorem CV.tx {t1 : List Int32} (h : CV s t ns) (hl : Ly tt cc s) (g : ch (fun a _ => a = 79 ∨ a = 80) s s1) (hq : LT s1 79 t1) (hn : t1.length ≤ 256 ∧ okT t1) : CV s1 t1 ns := by
  obtain ⟨-, ⟨b1, b2⟩, c1, d1, e1⟩ := h
  refine ⟨⟨hq, hn⟩, ⟨b1.of b2.1 g (fun a k q => by omega), b2⟩, c1.of g (fun k => by omega) (by omega), fun b hb => ?_, e1.of g (fun a k q => by omega)⟩
  have hb := g.k.mp hb
  have h3 := tr_at hl hb
  exact (d1 b hb).of g (by omega) (fun k => by omega) (by omega) (fun k => by omega)
set_option maxRecDepth 100000 in
theorem ofNat_any (x : Int32) : ∃ i, x = Int32.ofNat i := by
  refine ⟨(x.toInt % 4294967296).toNat, ?_⟩
  have h := iRange x
  by_cases c : 0 ≤ x.toInt
  · rw [show (x.toInt % 4294967296).toNat = x.toInt.toNat by omega]
    exact ofNat_of c
  · rw [iEq]
    show x.toInt = (Int32.ofNat (x.toInt % 4294967296).toNat).toInt
    rw [Int32.toInt_ofNat', show (((x.toInt % 4294967296).toNat : Nat) : Int) = x.toInt + ((4294967296 : Nat) : Int) by omega, show Int32.size = 4294967296 from rfl, Int.add_bmod_right]
    exact (Int.bmod_eq_of_le (by omega) (by omega)).symm
set_option maxRecDepth 100000 in
theorem kn_of (h : TW s b) (hr : RD s) : ∃ i N, N ≤ 128 ∧ KN s s b i 256 N := by
  obtain ⟨N, u, a1, a2, a3, a5⟩ := h
  obtain ⟨i, ei⟩ := ofNat_any (sI s 106 7)
  exact ⟨i, N, a1, ⟨ch.refl _ s, ei, ⟨N, u, a1, a2, a3, a3.2.1, a5⟩, hr⟩, a2⟩
set_option maxRecDepth 100000 in
theorem TD.nT {y : Nat} (ht : TD s) (hL : 149 ≤ sL s) (hy : y < 8) (hn : sR s 100 y = .null) : TD (wR (nTree s) 100 y (.ref (sL s))) := by
  have eR : ∀ f, f ≠ y → sR (wR (nTree s) 100 y (.ref (sL s))) 100 f = sR s 100 f := fun f hf => by
    rw [sR_wR, if_neg (by omega), nT_R (by omega)]
  have eY : sR (wR (nTree s) 100 y (.ref (sL s))) 100 y = .ref (sL s) := by rw [sR_wR, if_pos ⟨rfl, rfl⟩]
  have eK : ∀ b, aK s b 3 → aK (wR (nTree s) 100 y (.ref (sL s))) b 3 := fun b hb => nT_K hb
  have eN : aK (wR (nTree s) 100 y (.ref (sL s))) (sL s) 3 := ⟨by show sL s < sL s + 4; omega, by
    show (sT (nTree s) (sL s)).1 = 3
    rw [nTree_T, if_neg (by omega), if_neg (by omega), if_neg (by omega), if_pos rfl]⟩
  have old : ∀ f, f < 8 → f ≠ y → sR s 100 f ≠ .ref (sL s) := fun f hf hfy q => by
    rcases ht.1 f hf with z | ⟨b, z1, z2⟩
    · rw [z] at q
      cases q
    · rw [z1] at q
      cases q
      exact absurd z2.1 (Nat.lt_irrefl _)
  refine ⟨fun f hf => ?_, fun f g b hf hg q1 q2 => ?_, ?_⟩
  · by_cases e : f = y
    · subst e
      exact Or.inr ⟨_, eY, eN⟩
    · rw [eR f e]
      rcases ht.1 f hf with z | ⟨b, z1, z2⟩
      · exact Or.inl z
      · exact Or.inr ⟨b, z1, eK b z2⟩
  · by_cases e1 : f = y
    · by_cases e2 : g = y
      · rw [e1, e2]
      · subst e1
        rw [eY] at q1
        cases q1
        rw [eR g e2] at q2
        exact absurd q2 (old g hg e2)
    · rw [eR f e1] at q1
      by_cases e2 : g = y
      · subst e2
        rw [eY] at q2
        cases q2
        exact absurd q1 (old f hf e1)
      · rw [eR g e2] at q2
        exact ht.2.1 f g b hf hg q1 q2
  · obtain ⟨b, b1, b2, b3⟩ := ht.2.2
    refine ⟨b, ?_, eK b b2, fun f hf q => ?_⟩
    · rw [sR_wR, if_neg (by omega), nT_R (by omega)]
      exact b1
    · by_cases e : f = y
      · subst e
        rw [eY] at q
        cases q
        exact absurd b2.1 (Nat.lt_irrefl _)
      · rw [eR f e] at q
        exact b3 f hf q
end CVs
end
section
/-! read, move, shift and drop of FormulaTrees come to their end -/
section CVs
variable {tt : Nat} {xs : List Int32} {s : aS} {t : List Int32} {ns : List (List Int32)} {b c : Nat}
set_option maxRecDepth 100000 in
theorem nT_0 (s : aS) : (sT (nTree s) (sL s)).1 = 3 := by rw [nTree_T, if_neg (by omega), if_neg (by omega), if_neg (by omega), if_pos rfl]
set_option maxRecDepth 100000 in
theorem ly_100 {v : Value} {k : Nat} (hl : Ly tt (cCc xs) s) : Ly tt (cCc xs) (wR s 100 k v) := hl.wRd (show sT s 100 = (113, 8) from hl.T (a := 100) (p := (113, 8)) 22 rfl rfl) (by decide) (lay_noR _)
set_option maxRecDepth 100000 in
/-- the tree that was read takes its place: an old one is there -/
theorem td_old {f c b : Nat} {v : Int32} (h : TD s) (hf : f < 8) (hc : sR s 100 f = .ref c) (hb : sR s 78 6 = .ref b) : TD (wR (wI (wR s 100 f (.ref b)) 101 f v) 78 6 (.ref c)) := by
  obtain ⟨a1, a2, b9, b1, b2, b3⟩ := h
  rw [hb] at b1
  cases b1
  have eR : ∀ g, sR (wR (wI (wR s 100 f (.ref b)) 101 f v) 78 6 (.ref c)) 100 g = if g = f then .ref b else sR s 100 g := fun g => by
    rw [sR_wR, if_neg (by omega), sR_wI, sR_wR]
    by_cases e : g = f
    · rw [if_pos ⟨rfl, e⟩, if_pos e]
    · rw [if_neg (fun z => e z.2), if_neg e]
  have hck : aK s c 3 := by
    rcases a1 f hf with z | ⟨d, z1, z2⟩
    · rw [z] at hc
      cases hc
    · rw [z1] at hc
      cases hc
      exact z2
  refine ⟨fun g hg => ?_, fun g k d hg hk q1 q2 => ?_, c, by rw [sR_wR, if_pos ⟨rfl, rfl⟩], hck, fun g hg => ?_⟩
  · rw [eR]
    by_cases e : g = f
    · rw [if_pos e]
      exact Or.inr ⟨b, rfl, b2⟩
    · rw [if_neg e]
      exact a1 g hg
  · rw [eR] at q1 q2
    by_cases e1 : g = f
    · by_cases e2 : k = f
      · rw [e1, e2]
      · rw [if_pos e1] at q1
        rw [if_neg e2] at q2
        cases q1
        exact absurd q2 (b3 k hk)
    · by_cases e2 : k = f
      · rw [if_neg e1] at q1
        rw [if_pos e2] at q2
        cases q2
        exact absurd q1 (b3 g hg)
      · rw [if_neg e1] at q1
        rw [if_neg e2] at q2
        exact a2 g k d hg hk q1 q2
  · rw [eR]
    by_cases e : g = f
    · rw [if_pos e]
      intro q
      cases q
      exact b3 f hf hc
    · rw [if_neg e]
      exact fun q => e (a2 g f c hg hf q hc)
set_option maxRecDepth 100000 in
/-- and where there is none -/
theorem td_new {f b : Nat} {v : Int32} (h : TD s) (hL : 149 ≤ sL s) (hf : f < 8) (hb : sR s 78 6 = .ref b) : TD (wR (nTree (wI (wR s 100 f (.ref b)) 101 f v)) 78 6 (.ref (sL s))) := by
  obtain ⟨a1, a2, b9, b1, b2, b3⟩ := h
  rw [hb] at b1
  cases b1
  have eR : ∀ g, sR (wR (nTree (wI (wR s 100 f (.ref b)) 101 f v)) 78 6 (.ref (sL s))) 100 g = if g = f then .ref b else sR s 100 g := fun g => by
    rw [sR_wR, if_neg (by omega), nT_R (s := wI (wR s 100 f (.ref b)) 101 f v) (show 100 < sL s by omega), sR_wI, sR_wR]
    by_cases e : g = f
    · rw [if_pos ⟨rfl, e⟩, if_pos e]
    · rw [if_neg (fun z => e z.2), if_neg e]
  have eK : ∀ d, aK s d 3 → aK (wR (nTree (wI (wR s 100 f (.ref b)) 101 f v)) 78 6 (.ref (sL s))) d 3 := fun d hd => nT_K (s := wI (wR s 100 f (.ref b)) 101 f v) hd
  have eN : aK (wR (nTree (wI (wR s 100 f (.ref b)) 101 f v)) 78 6 (.ref (sL s))) (sL s) 3 := ⟨by show sL s < sL s + 4; omega, by
    exact nT_0 (wI (wR s 100 f (.ref b)) 101 f v)⟩
  refine ⟨fun g hg => ?_, fun g k d hg hk q1 q2 => ?_, sL s, by rw [sR_wR, if_pos ⟨rfl, rfl⟩], eN, fun g hg => ?_⟩
  · rw [eR]
    by_cases e : g = f
    · rw [if_pos e]
      exact Or.inr ⟨b, rfl, eK b b2⟩
    · rw [if_neg e]
      rcases a1 g hg with z | ⟨d, z1, z2⟩
      · exact Or.inl z
      · exact Or.inr ⟨d, z1, eK d z2⟩
  · rw [eR] at q1 q2
    by_cases e1 : g = f
    · by_cases e2 : k = f
      · rw [e1, e2]
      · rw [if_pos e1] at q1
        rw [if_neg e2] at q2
        cases q1
        exact absurd q2 (b3 k hk)
    · by_cases e2 : k = f
      · rw [if_neg e1] at q1
        rw [if_pos e2] at q2
        cases q2
        exact absurd q1 (b3 g hg)
      · rw [if_neg e1] at q1
        rw [if_neg e2] at q2
        exact a2 g k d hg hk q1 q2
  · rw [eR]
    by_cases e : g = f
    · rw [if_pos e]
      intro q
      cases q
      exact absurd b2.1 (Nat.lt_irrefl _)
    · rw [if_neg e]
      intro q
      rcases a1 g hg with z | ⟨d, z1, z2⟩
      · rw [z] at q
        cases q
      · rw [z1] at q
        cases q
        exact absurd z2.1 (Nat.lt_irrefl _)
set_option maxRecDepth 100000 in
theorem y62 (h : CV s t ns) (hl : Ly tt (cCc xs) s) (x1 x2 : Int32) : Cm s t ns pI (dm62 x1 x2 s) := by
  unfold dm62 dm62_8
  rcases y55 x1 with ⟨-, e⟩ | ⟨hx, e⟩
  · rw [e]
    simp only [bu_some]
    rw [if_pos trivial]
    exact Cm.x h hl (Or.inr rfl) (by decide)
  · rw [e, d40 h.2.1.1.1 h.2.1.2.1]
    simp only [bu_some]
    rw [if_neg (by decide)]
    by_cases c : 0 ≤ x2.toInt ∧ x2.toInt < ns.length
    · rw [b01_t c, if_neg (by decide)]
      obtain ⟨b, b1, b2, b3⟩ := h.2.2.1.2.2
      rw [b1, vN_ref, if_pos b2]
      have h3 := tr_at hl b2
      have k108 : (sT s 108).2 = 256 := by rw [hl.T (a := 108) (p := (102, 256)) 30 rfl rfl]
      obtain ⟨v, s1, j, g1, g2, g3⟩ := k63 (s := s) (b := b) (t := t) (ns := ns) h.1.1 h.1.2.1 h.1.2.2 h.2.1.1.1 h.2.1.2 ⟨b2, h3, by rw [(hl.tr b2).2.2.2.2.2.2.1], k108, ⟨(RC.ly hl).1, RC.ly hl, TF.ly hl, ES.ly hl⟩, h.2.2.2.2.1, h.2.2.2.2.2.1⟩
      have hl1 := (dt63 (sio := true) (d := 2000) (by decide) hl b2 g1).1
      rw [g1]
      simp only [bv_some]
      have hc1 : ch (fun a k => AC b a k ∨ (a = 106 ∧ k = 6)) s s1 := ((ch.refl _ s).wR (Or.inr ⟨rfl, rfl⟩)).trans (g2.1.mono fun a k z => Or.inl z)
      have hV : CV s1 t ns := h.rd hl b2 hc1 (fun a k z => by unfold AC at z; omega) g2.2.2.w g2.2.2.2
      have e78 : sR s1 78 6 = .ref b := (hc1.r (by unfold AC; omega)).trans b1
      have hb1 : aK s1 b 3 := hc1.k.mpr b2
      have hL1 : 149 ≤ sL s1 := hl1.1
      have hx8 : x1.toInt.toNat < 8 := by omega
      split
      · rw [if_pos (aB_iff.mpr hx)]
        rcases hV.2.2.1.1 x1.toInt.toNat hx8 with z | ⟨d, z1, z2⟩
        · rw [show sR s1 100 (jN x1) = .null from z, vN_null, e78, vN_ref, if_pos hb1, if_pos (aB_iff.mpr hx)]
          simp only [nx_eq]
          rw [if_pos (aB_iff.mpr hx)]
          unfold dm62_46
          simp only [nx_eq]
          have u1 : CU (wI (wR s1 100 (jN x1) (.ref b)) 101 (jN x1) x2) t ns := hV.u.of hl1 (A := fun a _ => a = 100 ∨ a = 101) (((ch.refl _ s1).wR (Or.inl rfl)).wI (Or.inr rfl)) (fun a k z => by omega)
          have l1 : Ly tt (cCc xs) (wI (wR s1 100 (jN x1) (.ref b)) 101 (jN x1) x2) := (ly_100 hl1).wId (by decide)
          have u2 : CU (nTree (wI (wR s1 100 (jN x1) (.ref b)) 101 (jN x1) x2)) t ns := u1.gx l1 (gx_nT _) (nT_w _ hL1)
          have l2 := (lay_tree l1.gL l1).1
          have u3 := u2.of l2 (A := fun a _ => a = 78) ((ch.refl _ _).wR (k := 6) (v := .ref (sL s1)) rfl) (fun a k z => by omega)
          refine ⟨_, _, rfl, Or.inl ⟨v, rfl⟩, u3.v (td_new hV.2.2.1 hL1 hx8 e78), ?_⟩
          have w1 : gw s1 (nTree (wI (wR s1 100 (jN x1) (.ref b)) 101 (jN x1) x2)) := gw_nT (wI (wR s1 100 (jN x1) (.ref b)) 101 (jN x1) x2)
          exact gw.d hc1 (w1.tr (A := fun a _ => a = 78) ((ch.refl _ _).wR rfl))
        · rw [show sR s1 100 (jN x1) = .ref d from z1, vN_ref, if_pos z2, e78, vN_ref, if_pos hb1, if_pos (aB_iff.mpr hx)]
          simp only [nx_eq]
          rw [if_pos (aB_iff.mpr hx)]
          unfold dm62_46
          simp only [nx_eq]
          have g9 : ch (fun a _ => a = 100 ∨ a = 101 ∨ a = 78) s1 (wR (wI (wR s1 100 (jN x1) (.ref b)) 101 (jN x1) x2) 78 6 (.ref d)) := (((ch.refl _ s1).wR (Or.inl rfl)).wI (Or.inr (Or.inl rfl))).wR (Or.inr (Or.inr rfl))
          have u1 : CU (wR (wI (wR s1 100 (jN x1) (.ref b)) 101 (jN x1) x2) 78 6 (.ref d)) t ns := hV.u.of hl1 g9 (fun a k z => by omega)
          exact ⟨_, _, rfl, Or.inl ⟨v, rfl⟩, u1.v (td_old hV.2.2.1 hx8 z1 e78), gw.d hc1 (gw_ch g9)⟩
      · exact ⟨_, s1, rfl, Or.inl ⟨v, rfl⟩, hV, gw_ch hc1⟩
    · rw [b01_f c, if_pos rfl]
      exact Cm.x h hl (Or.inr rfl) (by decide)
set_option maxRecDepth 100000 in
theorem y128 (h : CV s t ns) (hl : Ly tt (cCc xs) s) (hc : aK s c 3) (r q : Int32) : ∃ s1, dm128 c r q s = some s1 ∧ CV s1 t ns ∧ ch (fun a _ => a = c + 1) s s1 := by
  obtain ⟨i, N, hN, hk⟩ := kn_of (h.2.2.2.1 c hc) h.2.2.2.2
  obtain ⟨s1, g1, g2, g3⟩ := k128 hk (tr_at hl hc) hN r q
  exact ⟨s1, g1, h.tree hl hc g3 (fun a k z => by omega) g2.1.2.2.w, g3⟩
set_option maxRecDepth 100000 in
theorem y125m (h : CV s t ns) (hl : Ly tt (cCc xs) s) (hb : aK s b 3) (hc : aK s c 3) {x1 x5 : Int32} (hx : 0 ≤ x5.toInt ∧ x5.toInt < 8) (hbc : x5 = x1 ∨ c ≠ b) (x2 x3 x4 : Int32) : ∃ s1, dm125_46 x1 x2 x3 x4 x5 b c s = some (.inl none, s1) ∧ CV s1 t ns ∧ ch (fun _ _ => True) s s1 := by
  have f52 : ∀ s, CV s t ns → Ly tt (cCc xs) s → aK s c 3 → ∃ s1, dm125_52 x2 x3 x4 x5 c s = some (.inl none, s1) ∧ CV s1 t ns ∧ ch (fun _ _ => True) s s1 := by
    intro s h hl hc
    obtain ⟨s1, g1, g2, g3⟩ := y128 h hl hc x2 x3
    have l1 := (dt128 (sio := true) (d := 2000) (by decide) hl hc g1).1
    unfold dm125_52
    rw [g1]
    simp only [bu_some]
    rw [if_pos (aB_iff.mpr hx)]
    simp only [nx_eq]
    have g4 : ch (fun a _ => a = 101) s1 (wI s1 101 (jN x5) x4) := (ch.refl _ s1).wI rfl
    exact ⟨_, rfl, g2.of l1 g4 (fun a k z => Or.inl z), (g3.mono fun _ _ _ => trivial).trans (g4.mono fun _ _ _ => trivial)⟩
  unfold dm125_46
  by_cases e : x5 = x1
  · rw [if_pos e]
    exact f52 s h hl hc
  · rw [if_neg e]
    obtain ⟨s1, g1, g2, g3⟩ := k127 hl hc hb (hbc.resolve_left e) (h.2.2.2.1 b hb)
    have l1 := (dt127 (sio := true) (d := 2000) (by decide) hl hc hb g1).1
    rw [g1]
    simp only [bu_some]
    obtain ⟨s2, k1, k2, k3⟩ := f52 s1 (h.tree hl hc g3 (fun a k z => Or.inr z) g2) l1 (g3.k.mpr hc)
    exact ⟨s2, k1, k2, (g3.mono fun _ _ _ => trivial).trans k3⟩
set_option maxRecDepth 100000 in
theorem y126 (x : Int32) : ∃ v, dm126 x = some v := by
  unfold dm126
  repeat' split
  all_goals exact ⟨_, rfl⟩
set_option maxRecDepth 100000 in
theorem y125 (h : CV s t ns) (hl : Ly tt (cCc xs) s) (x1 x2 x3 x4 x5 : Int32) : Cm s t ns pM (dm125 x1 x2 x3 x4 x5 s) := by
  have hL : 149 ≤ sL s := hl.1
  unfold dm125 dm125_14 dm125_25
  rcases y54 h.2.2.1 x1 with e | ⟨b, e, e2, e3, e4⟩
  · obtain ⟨r, er⟩ : ∃ r, dm55 x5 = some r := by
      rcases y55 x5 with ⟨-, z⟩ | ⟨-, z⟩
      · exact ⟨_, z⟩
      · exact ⟨_, z⟩
    rw [e, er]
    simp only [bu_some, vN_null, ite_self]
    exact Cm.x h hl (Or.inr (Or.inl rfl)) (by decide)
  · rw [e]
    simp only [bu_some, vN_ref]
    rw [if_pos e2]
    rcases y55 x5 with ⟨-, z⟩ | ⟨hx, z⟩
    · rw [z]
      simp only [bu_some]
      rw [if_pos trivial]
      exact Cm.x h hl (Or.inr (Or.inl rfl)) (by decide)
    · obtain ⟨r2, w2⟩ := y126 x2
      obtain ⟨r3, w3⟩ := y126 x3
      rw [z, d40 h.2.1.1.1 h.2.1.2.1, w2, w3]
      simp only [bu_some]
      rw [if_neg (by decide)]
      split
      · exact Cm.x h hl (Or.inr (Or.inl rfl)) (by decide)
      · split
        · exact Cm.x h hl (Or.inr (Or.inr rfl)) (by decide)
        · split
          · exact Cm.x h hl (Or.inr (Or.inr rfl)) (by decide)
          · rw [if_pos (aB_iff.mpr hx)]
            rcases h.2.2.1.1 x5.toInt.toNat (by omega) with z | ⟨d, z1, z2⟩
            · have hn : sR s 100 (jN x5) = .null := z
              rw [hn, vN_null]
              simp only [nx_eq]
              rw [if_pos (aB_iff.mpr hx)]
              have l1 := (lay_tree hl.gL hl).1
              have u1 : CU (nTree s) t ns := h.u.gx hl (gx_nT s) (nT_w s hL)
              have u2 : CU (wR (nTree s) 100 (jN x5) (.ref (sL s))) t ns := u1.of l1 (A := fun a _ => a = 100) ((ch.refl _ _).wR rfl) (fun a k z => by omega)
              have v2 : CV (wR (nTree s) 100 (jN x5) (.ref (sL s))) t ns := u2.v (TD.nT h.2.2.1 hL (show x5.toInt.toNat < 8 by omega) z)
              have l2 : Ly tt (cCc xs) (wR (nTree s) 100 (jN x5) (.ref (sL s))) := ly_100 l1
              have eN : aK (wR (nTree s) 100 (jN x5) (.ref (sL s))) (sL s) 3 := (lay_tree hl.gL hl).2.2
              obtain ⟨s1, k1, k2, k3⟩ := y125m (x1 := x1) (x5 := x5) v2 l2 (b := b) (c := sL s) (nT_K e2) eN hx (Or.inr (by have := e2.1; omega)) x2 x3 x4
              rw [k1]
              refine ⟨_, s1, rfl, Or.inl rfl, k2, ?_⟩
              exact ((gw_nT s).tr (A := fun a _ => a = 100) ((ch.refl _ _).wR (k := jN x5) (v := .ref (sL s)) rfl)).tr k3
            · rw [show sR s 100 (jN x5) = .ref d from z1, vN_ref, if_pos z2]
              obtain ⟨s1, k1, k2, k3⟩ := y125m (x1 := x1) (x5 := x5) h hl (b := b) (c := d) e2 z2 hx (by
                by_cases q : d = b
                · left
                  subst q
                  have := h.2.2.1.2.1 x5.toInt.toNat x1.toInt.toNat d (by omega) (by omega) z1 e4
                  rw [iEq]
                  omega
                · exact Or.inr q) x2 x3 x4
              rw [k1]
              exact ⟨_, s1, rfl, Or.inl rfl, k2, gw_ch k3⟩
set_option maxRecDepth 100000 in
theorem y133 (h : CV s t ns) (hl : Ly tt (cCc xs) s) (x1 x2 x3 x4 : Int32) : Cm s t ns pJ (dm133 x1 x2 x3 x4 s) := by
  have loop : ∀ (m f n : Nat) (x5 : Int32) (s : aS), CV s t ns → Ly tt (cCc xs) s → f + m = 8 → m < n → ∃ v s1, dm133_29 n x1 x2 x3 x4 x5 (Int32.ofNat f) s = some (.inl (some (.int v)), s1) ∧ CV s1 t ns ∧ ch (fun _ _ => True) s s1 := by
    intro m
    induction m with
    | zero =>
      intro f n x5 s h hl h1 h2
      obtain ⟨n, rfl⟩ : ∃ q, n = q + 1 := ⟨n - 1, by omega⟩
      have hf : f = 8 := by omega
      subst hf
      rw [dm133_29, if_pos (by decide)]
      exact ⟨x5, s, rfl, h, ch.refl _ s⟩
    | succ m ih =>
      intro f n x5 s h hl h1 h2
      obtain ⟨n, rfl⟩ : ∃ q, n = q + 1 := ⟨n - 1, by omega⟩
      rw [dm133_29, if_neg (fun q => by have := (nle_iff (a := 8) (by omega) (by omega)).mp q; omega)]
      rcases y54 h.2.2.1 (Int32.ofNat f) with e | ⟨b, e, e2, e3, e4⟩
      · rw [e]
        simp only [bu_some, vN_null]
        unfold dm133_56
        rw [ofNat_succ (by omega)]
        exact ih (f + 1) n x5 s h hl (by omega) (by omega)
      · rw [e]
        simp only [bu_some, vN_ref]
        rw [if_pos e2, if_pos (aB_of (by omega) (by omega))]
        have f50 : ∀ y3, ∃ v s1, dm133_50 (dm133_29 n) x1 x2 x3 x4 (Int32.ofNat f) x5 b x1 y3 s = some (.inl (some (.int v)), s1) ∧ CV s1 t ns ∧ ch (fun _ _ => True) s s1 := by
          intro y3
          obtain ⟨i, N, hN, hk⟩ := kn_of (h.2.2.2.1 b e2) h.2.2.2.2
          obtain ⟨v, s1, g1, g2, g3⟩ := k134 hk (tr_at hl e2) hN x1 y3 x2 x3 x4
          have l1 := (dt134 (sio := true) (d := 2000) (by decide) hl e2 g1).1
          unfold dm133_50 dm133_56
          rw [g1]
          simp only [bv_some]
          rw [ofNat_succ (by omega)]
          obtain ⟨v2, s2, k1, k2, k3⟩ := ih (f + 1) n (x5 + v) s1 (h.tree hl e2 g3 (fun a k z => by omega) g2.1.2.2.w) l1 (by omega) (by omega)
          exact ⟨v2, s2, k1, k2, (g3.mono fun _ _ _ => trivial).trans k3⟩
        split
        · exact f50 1
        · exact f50 0
  obtain ⟨r8, w8⟩ := e132 x2
  obtain ⟨r4, w4⟩ := y126 x4
  unfold dm133 dm133_20
  rw [d40 h.2.1.1.1 h.2.1.2.1, w8, w4]
  simp only [bu_some]
  split
  · exact Cm.x h hl (Or.inr (Or.inl rfl)) (by decide)
  · split
    · exact Cm.x h hl (Or.inr (Or.inr rfl)) (by decide)
    · split
      · exact Cm.x h hl (Or.inr (Or.inr rfl)) (by decide)
      · split
        · exact Cm.x h hl (Or.inr (Or.inr rfl)) (by decide)
        · obtain ⟨v, s1, k1, k2, k3⟩ := loop 8 0 5000 0 s h hl (by omega) (by omega)
          have k1 : dm133_29 5000 x1 x2 x3 x4 0 0 s = some (.inl (some (.int v)), s1) := k1
          rw [k1]
          exact ⟨_, s1, rfl, Or.inl ⟨v, rfl⟩, k2, gw_ch k3⟩
set_option maxRecDepth 100000 in
theorem ok_er {i : Nat} (h : nsOk ns) : nsOk (ns.eraseIdx i) := ⟨Nat.le_trans (List.length_eraseIdx_le ns i) h.1, fun n hn => h.2 n (List.mem_of_mem_eraseIdx hn)⟩
set_option maxRecDepth 100000 in
theorem y61 (x y : Int32) : ∃ v, dm61 x y = some v := by
  unfold dm61
  repeat' split
  all_goals exact ⟨_, rfl⟩
set_option maxRecDepth 100000 in
theorem y52 (h : CV s t ns) (hl : Ly tt (cCc xs) s) (x : Int32) : (¬ (0 ≤ x.toInt ∧ x.toInt < ns.length) ∧ dm52 x s = some (.inr 2, nw s 82 0)) ∨ ((0 ≤ x.toInt ∧ x.toInt < ns.length) ∧ ∃ s1, dm52 x s = some (.inl none, s1) ∧ CV s1 t (ns.eraseIdx x.toInt.toNat) ∧ gw s s1) := by
  have loop : ∀ (m f n : Nat) (ns : List (List Int32)) (s : aS), CV s t ns → Ly tt (cCc xs) s → f + m = 8 → m < n → ∃ s1, dm52_16 n x (Int32.ofNat f) s = some (.inl none, s1) ∧ CV s1 t ns ∧ ch (fun _ _ => True) s s1 := by
    intro m
    induction m with
    | zero =>
      intro f n ns s h hl h1 h2
      obtain ⟨n, rfl⟩ : ∃ q, n = q + 1 := ⟨n - 1, by omega⟩
      have hf : f = 8 := by omega
      subst hf
      rw [dm52_16, if_pos (by decide)]
      exact ⟨s, rfl, h, ch.refl _ s⟩
    | succ m ih =>
      intro f n ns s h hl h1 h2
      obtain ⟨n, rfl⟩ : ∃ q, n = q + 1 := ⟨n - 1, by omega⟩
      rw [dm52_16, if_neg (fun q => by have := (nle_iff (a := 8) (by omega) (by omega)).mp q; omega)]
      rcases y54 h.2.2.1 (Int32.ofNat f) with e | ⟨b, e, e2, e3, e4⟩
      · rw [e]
        simp only [bu_some, vN_null]
        unfold dm52_38
        rw [ofNat_succ (by omega)]
        exact ih (f + 1) n ns s h hl (by omega) (by omega)
      · obtain ⟨i, N, hN, hk⟩ := kn_of (h.2.2.2.1 b e2) h.2.2.2.2
        obtain ⟨s1, g1, g2, g3⟩ := k56 hk (tr_at hl e2) hN x
        have l1 := (dt56 (sio := true) (d := 2000) (by decide) hl e2 g1).1
        have v1 : CV s1 t ns := h.tree hl e2 g3 (fun a k z => by omega) g2.1.2.2.w
        rw [e]
        simp only [bu_some, vN_ref]
        rw [if_pos e2, g1]
        simp only [bu_some]
        obtain ⟨r, er⟩ := y61 (sI s1 101 (jN (Int32.ofNat f))) x
        rw [if_pos (aB_of (by omega) (by omega)), er]
        simp only [bu_some, nx_eq]
        rw [if_pos (aB_of (by omega) (by omega))]
        unfold dm52_38
        rw [ofNat_succ (by omega)]
        have g4 : ch (fun a _ => a = 101) s1 (wI s1 101 (jN (Int32.ofNat f)) r) := (ch.refl _ s1).wI rfl
        obtain ⟨s2, k1, k2, k3⟩ := ih (f + 1) n ns (wI s1 101 (jN (Int32.ofNat f)) r) (v1.of l1 g4 (fun a k z => Or.inl z)) (l1.wId (by decide)) (by omega) (by omega)
        exact ⟨s2, k1, k2, ((g3.mono fun _ _ _ => trivial).trans (g4.mono fun _ _ _ => trivial)).trans k3⟩
  unfold dm52
  rw [d40 h.2.1.1.1 h.2.1.2.1]
  simp only [bu_some]
  by_cases hx : 0 ≤ x.toInt ∧ x.toInt < ns.length
  · right
    refine ⟨hx, ?_⟩
    rw [b01_t hx, if_neg (by decide)]
    obtain ⟨s1, g1, g2, g3⟩ := d53 (i := x.toInt.toNat) h.2.1.1 (RC.ly hl) h.2.1.2 (TF.ly hl) (by omega)
    rw [← ofNat_of (x := x) hx.1] at g1
    have hl1 : Ly tt (cCc xs) s1 := (dt53 (sio := true) (d := 2000) (by decide) hl g1).1
    rw [g1]
    simp only [bu_some]
    obtain ⟨s2, k1, k2, k3⟩ := loop 8 0 5000 _ s1 (h.nm hl g3 g2 (ok_er h.2.1.2)) hl1 (by omega) (by omega)
    exact ⟨s2, k1, k2, gw_ch ((g3.mono fun _ _ _ => trivial).trans k3)⟩
  · left
    rw [b01_f hx, if_pos rfl]
    exact ⟨hx, rfl⟩
end CVs
end
section
/-! what changes of nodes leave alone -/
def nmp (g : Nd → Nd) : Prop := ∀ d, (g d 0 = d 0 ∨ (isRf d ∧ g d 0 = 2)) ∧ g d 1 = d 1
set_option maxRecDepth 100000 in
theorem ft_map {g : Nd → Nd} (hg : ∀ d, g d 1 = d 1) : ∀ (L : List Nd) (n : Nat), ft L n → ft (L.map g) n
  | [], n, h => h
  | d :: L, n, h => by
    obtain ⟨h1, h2⟩ := h
    refine ⟨h1, ?_⟩
    have e : arN (g d) = arN d := by unfold arN; rw [hg]
    rw [e]
    exact ft_map hg L _ h2
set_option maxRecDepth 100000 in
theorem ar_map {d e : Nd} (h : arOk d) (h0 : e 0 = d 0 ∨ (isRf d ∧ e 0 = 2)) (h1 : e 1 = d 1) : arOk e := by
  rcases h0 with h0 | ⟨hr, h0⟩
  · unfold arOk
    rw [h0, h1]
    exact h
  · have d1 : d 1 = 0 := h.2.2.2.1 (by
      rcases hr with q | q
      · rw [q]
        decide
      · rw [q]
        decide)
    unfold arOk
    rw [h0, h1, d1]
    decide
set_option maxRecDepth 100000 in
theorem lo0 (d : Nd) : loM d 0 = 2 := rfl
set_option maxRecDepth 100000 in
theorem lo1 (d : Nd) : loM d 1 = d 1 := rfl
set_option maxRecDepth 100000 in
theorem lo2 (d : Nd) : loM d 2 = -1 := rfl
set_option maxRecDepth 100000 in
theorem ls_map {x : Int32} (hx : 0 ≤ x.toInt) {d : Nd} (h : ndOk d) : (lsM x d 0 = d 0 ∨ (isRf d ∧ lsM x d 0 = 2)) ∧ lsM x d 1 = d 1 := by
  unfold lsM
  by_cases c : d 2 = x
  · rw [if_pos c]
    refine ⟨Or.inr ⟨?_, lo0 d⟩, lo1 d⟩
    refine Classical.byContradiction fun q => ?_
    have e := h.2.2.1 q
    rw [e] at c
    rw [← c] at hx
    exact absurd hx (by decide)
  · rw [if_neg c]
    by_cases c2 : d 2 ≤ x
    · rw [if_pos c2]
      exact ⟨Or.inl rfl, rfl⟩
    · rw [if_neg c2]
      exact ⟨Or.inl (if_neg (by decide)), if_neg (by decide)⟩
set_option maxRecDepth 100000 in
theorem ls_eq {x : Int32} (hx : 0 ≤ x.toInt) {d : Nd} (h : ndOk d) : lsM x d = lsN x d := by
  unfold lsM lsN
  by_cases c : d 2 = x
  · rw [if_pos c, if_pos c, lo_eq (h.c hx c)]
  · rw [if_neg c, if_neg c]
set_option maxRecDepth 100000 in
theorem ls_2 {x : Int32} {n : Nat} (hx : 0 ≤ x.toInt ∧ x.toInt < n) {d : Nd} (h : ndOk d) (h2 : (d 2).toInt < n) : (lsM x d 2).toInt < (n - 1 : Int) := by
  unfold lsM
  by_cases c : d 2 = x
  · rw [if_pos c, lo2]
    show (-1 : Int) < _
    omega
  · rw [if_neg c]
    have hn : (d 2).toInt ≠ x.toInt := fun q => c (iEq.mpr q)
    by_cases c2 : d 2 ≤ x
    · rw [if_pos c2]
      have := iLe.mp c2
      omega
    · rw [if_neg c2]
      have c2 : ¬ (d 2).toInt ≤ x.toInt := fun q => c2 (iLe.mpr q)
      show (if (2 : Nat) = 2 then d 2 - 1 else d 2).toInt < _
      rw [if_pos rfl]
      have e1 : (1 : Int32).toInt = 1 := rfl
      have := h.1
      rw [iSub (by rw [e1]; omega) (by rw [e1]; omega), e1]
      omega
set_option maxRecDepth 100000 in
theorem sh_map {x t k n m ho : Int32} : nmp (shM x t k n m ho) := by
  intro d
  unfold shM
  rcases Classical.em (isRf d ∧ onS x ho d) with c | c
  · rw [b01_t c, if_neg (by decide)]
    rcases Classical.em (loS t k n m d) with c2 | c2
    · rw [b01_t c2, if_neg (by decide)]
      exact ⟨Or.inr ⟨c.1, lo0 d⟩, lo1 d⟩
    · rw [b01_f c2, if_pos rfl]
      have a1 : (0 : Nat) ≠ wA t ∧ (1 : Nat) ≠ wA t := by
        unfold wA
        split <;> exact ⟨by decide, by decide⟩
      have a2 : (0 : Nat) ≠ wB t ∧ (1 : Nat) ≠ wB t := by
        unfold wB
        split <;> exact ⟨by decide, by decide⟩
      exact ⟨Or.inl (by rw [setN_n a2.1, setN_n a1.1]), by rw [setN_n a2.2, setN_n a1.2]⟩
  · rw [b01_f c, if_pos rfl]
    exact ⟨Or.inl rfl, rfl⟩
set_option maxRecDepth 100000 in
theorem sh_2 {x t k n m ho : Int32} {N : Nat} {d : Nd} (h : (d 2).toInt < N) : (shM x t k n m ho d 2).toInt < N := by
  unfold shM
  rcases Classical.em (isRf d ∧ onS x ho d) with c | c
  · rw [b01_t c, if_neg (by decide)]
    rcases Classical.em (loS t k n m d) with c2 | c2
    · rw [b01_t c2, if_neg (by decide), lo2]
      show (-1 : Int) < _
      omega
    · rw [b01_f c2, if_pos rfl]
      have a1 : (2 : Nat) ≠ wA t := by
        unfold wA
        split <;> decide
      have a2 : (2 : Nat) ≠ wB t := by
        unfold wB
        split <;> decide
      rw [setN_n a2, setN_n a1]
      exact h
  · rw [b01_f c, if_pos rfl]
    exact h
set_option maxRecDepth 100000 in
theorem mvM_k {r c : Int32} (d : Nd) : (mvM r c d 0 = d 0 ∨ mvM r c d 0 = 2) ∧ mvM r c d 1 = d 1 ∧ (mvM r c d 2 = d 2 ∨ mvM r c d 2 = -1) := by
  have e : ∀ k, k < 3 → mv4 c (mv3 r (mv2 c (mv1 r d))) k = d k := fun k hk => by rw [mv4_n (by omega), mv3_n (by omega), mv2_n (by omega), mv1_n (by omega)]
  unfold mvM mvE
  split
  · exact ⟨Or.inr (lo0 _), (lo1 _).trans (e 1 (by omega)), Or.inr (lo2 _)⟩
  · split
    · exact ⟨Or.inl (e 0 (by omega)), e 1 (by omega), Or.inl (e 2 (by omega))⟩
    · exact ⟨Or.inl (by rw [srC_k (by omega), srR_k (by omega)]; exact e 0 (by omega)), by rw [srC_k (by omega), srR_k (by omega)]; exact e 1 (by omega), Or.inl (by rw [srC_k (by omega), srR_k (by omega)]; exact e 2 (by omega))⟩
set_option maxRecDepth 100000 in
theorem mv_map {r c : Int32} : nmp (onRf (mvM r c)) := by
  intro d
  rcases Classical.em (isRf d) with q | q
  · rw [onRf_t q]
    obtain ⟨h0, h1, -⟩ := mvM_k (r := r) (c := c) d
    refine ⟨?_, h1⟩
    rcases h0 with h0 | h0
    · exact Or.inl h0
    · exact Or.inr ⟨q, h0⟩
  · rw [onRf_f q]
    exact ⟨Or.inl rfl, rfl⟩
set_option maxRecDepth 100000 in
theorem mv_s2 {r c : Int32} {N : Nat} {d : Nd} (h : (d 2).toInt < N) : (onRf (mvM r c) d 2).toInt < N := by
  rcases Classical.em (isRf d) with q | q
  · rw [onRf_t q]
    rcases (mvM_k (r := r) (c := c) d).2.2 with h0 | h0
    · rw [h0]
      exact h
    · rw [h0]
      show (-1 : Int) < _
      omega
  · rw [onRf_f q]
    exact h
set_option maxRecDepth 100000 in
theorem mv_okd {r c : Int32} {d : Nd} (h : ndOk d) : ndOk (onRf (mvM r c) d) := by
  rcases Classical.em (isRf d) with q | q
  · rw [onRf_t q]
    exact mv_ok h q
  · rw [onRf_f q]
    exact h
set_option maxRecDepth 100000 in
/-- letters of a node, carried over -/
theorem NM.go {s s1 : aS} {f p g q : Nat} {d e : Nd} {l : List Int32} (h : NM s f p (d 0) l) (hR : ∀ w, RL s f p w → RL s1 g q w) (h0 : e 0 = d 0 ∨ (isRf d ∧ e 0 = 2)) : NM s1 g q (e 0) l := by
  rcases h0 with h0 | ⟨hr, h0⟩
  · rw [h0]
    exact ⟨fun z => hR _ (h.1 z), fun z => hR _ (h.2.1 z), h.2.2⟩
  · rw [h0]
    have el : l = [] := h.2.2 (by
      rcases hr with z | z
      · rw [z]
        decide
      · rw [z]
        decide)
    exact ⟨fun z => absurd z (by decide), fun z => absurd z (by decide), fun _ => el⟩
set_option maxRecDepth 100000 in
theorem RL.of {A : Nat → Nat → Prop} {s s1 : aS} {f p : Nat} {w : List Int32} (h : RL s f p w) (g : ch A s s1) (hA : ∀ a k, A a k → a < 137 ∨ 139 < a) : RL s1 f p w := by
  obtain ⟨st, a1, a2, a3, a4⟩ := h
  exact ⟨st, (g.i fun q => by have := hA _ _ q; omega).trans a1, (g.i fun q => by have := hA _ _ q; omega).trans a2, a3, fun j hj => (g.i fun q => by have := hA _ _ q; omega).trans (a4 j hj)⟩
set_option maxRecDepth 100000 in
theorem MLt.of {A : Nat → Nat → Prop} {s s1 : aS} {fs : Nat → Option Fm} {lt : Nat → Nat → List Int32} (h : MLt s fs lt) (g : ch A s s1) (hA : ∀ a k, A a k → a < 137 ∨ 139 < a) : MLt s1 fs lt := fun f hf h9 L q i hi => (h f hf h9 L q i hi).go (fun w z => z.of g hA) (Or.inl rfl)
end
section
/-! move in the reference: the letters go along -/
def ltMv (lt : Nat → Nat → List Int32) (f g : Nat) : Nat → Nat → List Int32 := fun x i => if x = g then lt f i else lt x i
set_option maxRecDepth 100000 in
theorem d223n {s : aS} {p q : Nat} (hp : p < 1152) (hq : q < 1152) : ∃ s', dm223 (Int32.ofNat p) (Int32.ofNat q) s = some s' ∧ sI s' 137 q = sI s 137 p ∧ sI s' 138 q = sI s 138 p ∧ ch (fun a k => (128 ≤ a ∧ a ≤ 138) ∧ k = q) s s' := by
  have hbp : aB (Int32.ofNat p) 1152 := by rw [aB_iff, iOfNat (by omega)]; omega
  have hbq : aB (Int32.ofNat q) 1152 := by rw [aB_iff, iOfNat (by omega)]; omega
  have ejp : jN (Int32.ofNat p) = p := jN_of (by omega)
  have ejq : jN (Int32.ofNat q) = q := jN_of (by omega)
  unfold dm223
  simp only [if_pos hbp, if_pos hbq, nx_eq, ejp, ejq]
  refine ⟨_, rfl, ?_, ?_, (((((((((((ch.refl _ s).wI (by omega)).wI (by omega)).wI (by omega)).wI (by omega)).wI (by omega)).wI (by omega)).wI (by omega)).wI (by omega)).wI (by omega)).wI (by omega)).wI (by omega)⟩
  · simp [sI_wI]
  · simp [sI_wI]
set_option maxRecDepth 100000 in
theorem d224n {f g n : Nat} {r c ho : Int32} (hf : f < 8) (hg : g < 8) (h8 : n ≤ 128) : ∀ (m j k : Nat) (s : aS), j + m = n → m < k → sI s 127 f = Int32.ofNat n → ∃ s', dm224_44 k (Int32.ofNat f) r c ho (Int32.ofNat g) (Int32.ofNat j) s = dm224_85 5000 (Int32.ofNat f) ho (Int32.ofNat g) 0 s' ∧ (∀ i, j ≤ i → i < n → sI s' 137 (128 * g + i) = sI s 137 (128 * f + i) ∧ sI s' 138 (128 * g + i) = sI s 138 (128 * f + i)) ∧ ch (fun a q => (128 ≤ a ∧ a ≤ 138) ∧ 128 * g + j ≤ q ∧ q < 128 * g + n) s s' := by
  intro m
  induction m with
  | zero =>
    intro j k s hj hk h1
    obtain ⟨k, rfl⟩ : ∃ q, k = q + 1 := ⟨k - 1, by omega⟩
    rw [dm224_44, if_pos (by rw [aB_iff, iOfNat (by omega)]; omega), jN_of (i := f) (by omega), h1, if_pos (by rw [iLe, iOfNat (by omega), iOfNat (by omega)]; omega)]
    exact ⟨s, rfl, fun i hi hin => by omega, ch.refl _ s⟩
  | succ m ih =>
    intro j k s hj hk h1
    obtain ⟨k, rfl⟩ : ∃ q, k = q + 1 := ⟨k - 1, by omega⟩
    obtain ⟨s1, g1, g2, g4, g3⟩ := d223n (s := s) (p := 128 * f + j) (q := 128 * g + j) (by omega) (by omega)
    have hq : aB (Int32.ofNat (128 * g + j)) 1152 := by rw [aB_iff, iOfNat (by omega)]; omega
    have eq9 : jN (Int32.ofNat (128 * g + j)) = 128 * g + j := jN_of (by omega)
    rw [dm224_44, if_pos (by rw [aB_iff, iOfNat (by omega)]; omega), jN_of (i := f) (by omega), h1, if_neg (by rw [iLe, iOfNat (by omega), iOfNat (by omega)]; omega), i128 (by omega) (by omega), i128 (by omega) (by omega), g1]
    simp only [bu_some, if_pos hq, eq9]
    unfold dm224_76 dm224_81
    rw [ofNat_succ (by omega)]
    have next : ∀ s2, sI s2 137 (128 * g + j) = sI s 137 (128 * f + j) → sI s2 138 (128 * g + j) = sI s 138 (128 * f + j) → ch (fun a q => (128 ≤ a ∧ a ≤ 138) ∧ q = 128 * g + j) s s2 → ∃ s', dm224_44 k (Int32.ofNat f) r c ho (Int32.ofNat g) (Int32.ofNat (j + 1)) s2 = dm224_85 5000 (Int32.ofNat f) ho (Int32.ofNat g) 0 s' ∧ (∀ i, j ≤ i → i < n → sI s' 137 (128 * g + i) = sI s 137 (128 * f + i) ∧ sI s' 138 (128 * g + i) = sI s 138 (128 * f + i)) ∧ ch (fun a q => (128 ≤ a ∧ a ≤ 138) ∧ 128 * g + j ≤ q ∧ q < 128 * g + n) s s' := by
      intro s2 t1 t3 t2
      obtain ⟨s', a1, a2, a3⟩ := ih (j + 1) k s2 (by omega) (by omega) ((t2.i (by omega)).trans h1)
      refine ⟨s', a1, fun i hi hin => ?_, (t2.mono fun a q z => by omega).trans (a3.mono fun a q z => by omega)⟩
      by_cases e : i = j
      · subst e
        exact ⟨(a3.i (by omega)).trans t1, (a3.i (by omega)).trans t3⟩
      · obtain ⟨b1, b2⟩ := a2 i (by omega) hin
        exact ⟨b1.trans (t2.i (by omega)), b2.trans (t2.i (by omega))⟩
    have moved : ∃ s', (bu (dm226 (Int32.ofNat (128 * g + j)) r c s1) fun s3 => dm224_44 k (Int32.ofNat f) r c ho (Int32.ofNat g) (Int32.ofNat (j + 1)) s3) = dm224_85 5000 (Int32.ofNat f) ho (Int32.ofNat g) 0 s' ∧ (∀ i, j ≤ i → i < n → sI s' 137 (128 * g + i) = sI s 137 (128 * f + i) ∧ sI s' 138 (128 * g + i) = sI s 138 (128 * f + i)) ∧ ch (fun a q => (128 ≤ a ∧ a ≤ 138) ∧ 128 * g + j ≤ q ∧ q < 128 * g + n) s s' := by
      obtain ⟨s2, k1, k2, k3⟩ := d226 (s := s1) (p := 128 * g + j) (d := fun w => sI s1 (128 + w) (128 * g + j)) (by omega) (fun w hw => rfl) r c
      rw [k1]
      exact next s2 ((k3.i (by omega)).trans g2) ((k3.i (by omega)).trans g4) (g3.trans (k3.mono fun a q z => by omega))
    split
    · exact moved
    · split
      · exact moved
      · exact next s1 g2 g4 g3
set_option maxRecDepth 100000 in
theorem d224e {s : aS} {f g : Nat} {r c ho h0 : Int32} {fs : Nat → Option Fm} {lt : Nat → Nat → List Int32} {L : List Nd} (h : MM s fs) (hc : MLt s fs lt) (hf : f < 8) (hg : g < 8) (hL : fs f = some (h0, L)) : ∃ s', dm224_44 5000 (Int32.ofNat f) r c ho (Int32.ofNat g) 0 s = some s' ∧ MM s' (fsMove f g r c ho (fun r c => onRf (mvM r c)) L fs) ∧ MLt s' (fsMove f g r c ho (fun r c => onRf (mvM r c)) L fs) (ltMv lt f g) ∧ ch (fun a _ => 125 ≤ a ∧ a ≤ 139) s s' := by
  obtain ⟨s', a1, a2, a3⟩ := d224m (r := r) (c := c) (ho := ho) h hf hg hL
  obtain ⟨b1, b2, b3⟩ := (h f hf).2 h0 L hL
  have h8 := b3.2.1
  obtain ⟨s1, k1, k2, k3⟩ := d224n (r := r) (c := c) (ho := ho) hf hg h8 L.length 0 5000 s (by omega) (by omega) b3.1
  obtain ⟨s2, m1, m2, m3, m4, m5, m6⟩ := d224t (ho := ho) hf hg 256 0 5000 s1 (by omega) (by omega)
  have k1 : dm224_44 5000 (Int32.ofNat f) r c ho (Int32.ofNat g) 0 s = dm224_85 5000 (Int32.ofNat f) ho (Int32.ofNat g) 0 s1 := k1
  have m1 : dm224_85 5000 (Int32.ofNat f) ho (Int32.ofNat g) 0 s1 = some s2 := m1
  have e2 : s2 = s' := by
    have := (k1.trans m1).symm.trans a1
    exact Option.some.inj this
  subst e2
  refine ⟨s2, a1, a2, fun x hx h9 L9 q i hi => ?_, a3⟩
  unfold fsMove at q
  unfold ltMv
  by_cases e : x = g
  · subst e
    rw [if_pos rfl] at q
    rw [if_pos rfl]
    cases q
    have hi2 : i < L.length := by rw [List.length_map] at hi; exact hi
    have n0 := hc f hf h0 L hL i hi2
    rw [List.getElem_map]
    refine n0.go (fun w hw => ?_) (mv_map L[i]).1
    obtain ⟨st, r1, r2, r3, r4⟩ := hw
    obtain ⟨p1, p2⟩ := k2 i (by omega) hi2
    refine ⟨st, (m6.i (by omega)).trans (p1.trans r1), (m6.i (by omega)).trans (p2.trans r2), r3, fun j hj => ?_⟩
    rw [show 256 * x + st + j = 256 * x + (st + j) by omega, m5 (st + j) (by omega) (by omega), k3.i (by omega), show 256 * f + (st + j) = 256 * f + st + j by omega]
    exact r4 j hj
  · rw [if_neg e] at q
    rw [if_neg e]
    have n0 := hc x hx h9 L9 q i hi
    have h128 := ((h x hx).2 h9 L9 q).2.2.2.1
    refine n0.go (fun w hw => ?_) (Or.inl rfl)
    obtain ⟨st, r1, r2, r3, r4⟩ := hw
    exact ⟨st, (m6.i (by omega)).trans ((k3.i (by omega)).trans r1), (m6.i (by omega)).trans ((k3.i (by omega)).trans r2), r3, fun j hj => (m6.i (by omega)).trans ((k3.i (by omega)).trans (r4 j hj))⟩
set_option maxRecDepth 100000 in
theorem d224z {s : aS} {ns : List (List Int32)} {fs : Nat → Option Fm} (hs : SM s ns) (hn : nsOk ns) (h : MM s fs) {x1 x2 x3 x4 x5 : Int32} (hV : mvV ns fs x1 x4 x5) (hw : wayP x2 ∧ wayP x3) : dm224 x1 x2 x3 x4 x5 s = dm224_44 5000 x1 x2 x3 x4 x5 0 (wI s 121 0 0) := by
  have h8 := hn.1
  have a1 : x2 < -1048576 ↔ x2.toInt < -1048576 := iLt
  have a2 : 1048576 < x2 ↔ 1048576 < x2.toInt := iLt
  have a3 : x3 < -1048576 ↔ x3.toInt < -1048576 := iLt
  have a4 : x3 ≤ 1048576 ↔ x3.toInt ≤ 1048576 := iLe
  have l1 : x5 < 0 ↔ x5.toInt < 0 := iLt
  have l2 : 7 < x5 ↔ 7 < x5.toInt := iLt
  obtain ⟨v1, v2, v3⟩ := hV
  unfold wayP at hw
  unfold dm224
  rw [if_neg (fun q => by have := a1.mp q; omega), if_neg (fun q => by have := a2.mp q; omega), if_neg (fun q => by have := a3.mp q; omega), if_pos (a4.mpr (by omega))]
  unfold dm224_15
  rw [if_neg (fun q => by have := l1.mp q; omega), if_neg (fun q => by have := l2.mp q; omega)]
  rcases d225 h x1 with ⟨e1, e2⟩ | ⟨h0, L, e1, hx, e2, -⟩
  · exact absurd e1 v2
  · rw [e2, d181 hs h8]
    simp only [bu_some]
    rw [if_pos trivial, b01_f (fun q => q v3), if_pos rfl, if_pos trivial]
    unfold dm224_37
    rw [nx_eq]
    exact if_pos (show (0 : Int32) ≤ 0 by decide)
set_option maxRecDepth 100000 in
/-- move in the reference, with its letters -/
theorem d224x {s : aS} {ns : List (List Int32)} {fs : Nat → Option Fm} {lt : Nat → Nat → List Int32} (hs : SM s ns) (hn : nsOk ns) (h : MM s fs) (hc : MLt s fs lt) (x1 x2 x3 x4 x5 : Int32) :
    (¬ mvV ns fs x1 x4 x5 ∧ dm224 x1 x2 x3 x4 x5 s = some (wI s 121 0 1)) ∨
    (mvV ns fs x1 x4 x5 ∧ ¬ (wayP x2 ∧ wayP x3) ∧ dm224 x1 x2 x3 x4 x5 s = some (wI s 121 0 2)) ∨
    (mvV ns fs x1 x4 x5 ∧ (wayP x2 ∧ wayP x3) ∧ ∃ h0 L s', fAt fs x1 = some (h0, L) ∧ dm224 x1 x2 x3 x4 x5 s = some s' ∧ MM s' (fsMove x1.toInt.toNat x5.toInt.toNat x2 x3 x4 (fun r c => onRf (mvM r c)) L fs) ∧ MLt s' (fsMove x1.toInt.toNat x5.toInt.toNat x2 x3 x4 (fun r c => onRf (mvM r c)) L fs) (ltMv lt x1.toInt.toNat x5.toInt.toNat) ∧ sI s' 121 0 = 0 ∧ ch (fun a k => (a = 121 ∧ k = 0) ∨ (125 ≤ a ∧ a ≤ 139)) s s') := by
  rcases d224 hs hn h x1 x2 x3 x4 x5 with ⟨c1, e1⟩ | ⟨c1, c2, e1⟩ | ⟨c1, c2, h0, L, s', e0, e1, e2, e3, e4⟩
  · exact Or.inl ⟨c1, e1⟩
  · exact Or.inr (Or.inl ⟨c1, c2, e1⟩)
  · refine Or.inr (Or.inr ⟨c1, c2, h0, L, s', e0, e1, e2, ?_, e3, e4⟩)
    obtain ⟨f1, f2⟩ := fAt_s e0
    have c5 := c1.1
    obtain ⟨s2, k1, k2, k3, k4⟩ := d224e (r := x2) (c := x3) (ho := x4) (f := x1.toInt.toNat) (g := x5.toInt.toNat) (h.of (ch0 s 0) (by omega)) (hc.of (ch0 s 0) (by omega)) (by omega) (by omega) f2
    rw [← ofNat_of (x := x1) (by omega), ← ofNat_of (x := x5) (by omega), ← d224z hs hn h c1 c2, e1] at k1
    have := Option.some.inj k1
    subst this
    exact k3
end
section
/-! what holds of the reference between calls -/
def okA (fs : Nat → Option Fm) (ns : List (List Int32)) : Prop := ∀ f h L, fs f = some (h, L) → ft L 1 ∧ ∀ d ∈ L, ndOk d ∧ arOk d ∧ (d 2).toInt < ns.length
def RV (s : aS) (t : List Int32) (ns : List (List Int32)) (fs : Nat → Option Fm) (lt : Nat → Nat → List Int32) : Prop := MT s t ∧ SM s ns ∧ MM s fs ∧ MLt s fs lt ∧ ltOk fs lt ∧ okA fs ns
def mA (a _k : Nat) : Prop := 121 ≤ a ∧ a ≤ 147
section RVs
variable {s s1 : aS} {t : List Int32} {ns : List (List Int32)} {fs : Nat → Option Fm} {lt : Nat → Nat → List Int32} {A : Nat → Nat → Prop}
set_option maxRecDepth 100000 in
theorem SM.of (h : SM s ns) (g : ch A s s1) (hA : ∀ a k, A a k → (a = 121 ∧ k ≠ 3) ∨ a = 122 ∨ 124 < a) : SM s1 ns := ⟨(g.i fun q => by have := hA _ _ q; omega).trans h.1, fun i hi => ⟨(g.i fun q => by have := hA _ _ q; omega).trans (h.2 i hi).1, fun j hj => (g.i fun q => by have := hA _ _ q; omega).trans ((h.2 i hi).2 j hj)⟩⟩
set_option maxRecDepth 100000 in
/-- the reference's cells are as they were -/
theorem RV.same (h : RV s t ns fs lt) (e : ∀ a k, 121 ≤ a → a ≤ 147 → sI s1 a k = sI s a k) : RV s1 t ns fs lt := by
  obtain ⟨a1, a2, a3, a4, a5⟩ := h
  refine ⟨⟨(e _ _ (by omega) (by omega)).trans a1.1, fun j hj => (e _ _ (by omega) (by omega)).trans (a1.2 j hj)⟩, ⟨(e _ _ (by omega) (by omega)).trans a2.1, fun i hi => ⟨(e _ _ (by omega) (by omega)).trans (a2.2 i hi).1, fun j hj => (e _ _ (by omega) (by omega)).trans ((a2.2 i hi).2 j hj)⟩⟩, fun f hf => ⟨fun q => (e _ _ (by omega) (by omega)).trans ((a3 f hf).1 q), fun h9 L q => ?_⟩, fun f hf h9 L q i hi => ?_, a5⟩
  · obtain ⟨b1, b2, b3, b4, b5⟩ := (a3 f hf).2 h9 L q
    exact ⟨(e _ _ (by omega) (by omega)).trans b1, (e _ _ (by omega) (by omega)).trans b2, (e _ _ (by omega) (by omega)).trans b3, b4, fun i hi w hw => (e _ _ (by omega) (by omega)).trans (b5 i hi w hw)⟩
  · refine (a4 f hf h9 L q i hi).go (fun w hw => ?_) (Or.inl rfl)
    obtain ⟨st, r1, r2, r3, r4⟩ := hw
    exact ⟨st, (e _ _ (by omega) (by omega)).trans r1, (e _ _ (by omega) (by omega)).trans r2, r3, fun j hj => (e _ _ (by omega) (by omega)).trans (r4 j hj)⟩
set_option maxRecDepth 100000 in
theorem RV.fl (h : RV s t ns fs lt) (g : ch A s s1) (hA : ∀ a k, A a k → a = 121 ∧ k ≠ 1 ∧ k ≠ 3) : RV s1 t ns fs lt := ⟨h.1.of g (fun q => by have := hA _ _ q; omega) (fun j q => by have := hA _ _ q; omega), h.2.1.of g (fun a k q => by have := hA _ _ q; omega), h.2.2.1.of g (fun a k q => by have := hA _ _ q; omega), h.2.2.2.1.of g (fun a k q => by have := hA _ _ q; omega), h.2.2.2.2⟩
set_option maxRecDepth 100000 in
theorem RV.t0 (h : RV s t ns fs lt) (v : Int32) : RV (wI s 121 0 v) t ns fs lt ∧ ch mA s (wI s 121 0 v) := ⟨h.fl (ch0 s v) (fun a k z => by omega), (ch0 s v).mono fun a k z => by unfold mA; omega⟩
set_option maxRecDepth 100000 in
theorem okA.len {ns1 : List (List Int32)} (h : okA fs ns) (hn : ns.length ≤ ns1.length) : okA fs ns1 := fun f h9 L q => ⟨(h f h9 L q).1, fun d hd => ⟨((h f h9 L q).2 d hd).1, ((h f h9 L q).2 d hd).2.1, by have := ((h f h9 L q).2 d hd).2.2; omega⟩⟩
set_option maxRecDepth 100000 in
/-- erase -/
theorem r173 (h : RV s t ns fs lt) : ∃ s', dm173 s = some s' ∧ RV s' [] ns fs lt ∧ ch mA s s' := by
  have g : ch (fun a k => a = 121 ∧ k < 2) s (wI (wI s 121 0 0) 121 1 0) := ((ch.refl _ s).wI ⟨rfl, by omega⟩).wI ⟨rfl, by omega⟩
  refine ⟨_, rfl, ⟨⟨?_, fun j hj => absurd hj (Nat.not_lt_zero j)⟩, h.2.1.of g (fun a k q => by omega), h.2.2.1.of g (fun a k q => by omega), h.2.2.2.1.of g (fun a k q => by omega), h.2.2.2.2⟩, g.mono fun a k z => by unfold mA; omega⟩
  rw [sI_wI, if_pos ⟨rfl, rfl⟩]
  rfl
set_option maxRecDepth 100000 in
/-- a formula is no more -/
theorem r231 (h : RV s t ns fs lt) (x : Int32) : ∃ s' fs', dm231 x s = some s' ∧ RV s' t ns fs' lt ∧ ch mA s s' := by
  rcases d231 h.2.2.1 x with ⟨-, e⟩ | ⟨ho, L, e0, e⟩
  · exact ⟨_, fs, e, (h.t0 1).1, (h.t0 1).2⟩
  · obtain ⟨f1, f2⟩ := fAt_s e0
    have g : ch (fun a k => (a = 121 ∧ k = 0) ∨ (a = 125 ∧ k = x.toInt.toNat)) s (wI (wI s 121 0 0) 125 x.toInt.toNat 0) := ((ch.refl _ s).wI (Or.inl ⟨rfl, rfl⟩)).wI (Or.inr ⟨rfl, rfl⟩)
    have hfs : ∀ f v, fsDel fs x.toInt.toNat f = some v → f ≠ x.toInt.toNat ∧ fs f = some v := fun f v q => by
      unfold fsDel at q
      by_cases e : f = x.toInt.toNat
      · rw [if_pos e] at q
        cases q
      · rw [if_neg e] at q
        exact ⟨e, q⟩
    refine ⟨_, fsDel fs x.toInt.toNat, e, ⟨h.1.of g (by omega) (fun j => by omega), h.2.1.of g (fun a k q => by omega), fun f hf => ⟨fun q => ?_, fun h9 L9 q => ?_⟩, fun f hf h9 L9 q i hi => ?_, fun f hf h9 L9 q i hi => ?_, fun f h9 L9 q => ?_⟩, g.mono fun a k z => by unfold mA; omega⟩
    · by_cases e : f = x.toInt.toNat
      · rw [e, sI_wI, if_pos ⟨rfl, rfl⟩]
      · unfold fsDel at q
        rw [if_neg e] at q
        exact (g.i (by omega)).trans ((h.2.2.1 f hf).1 q)
    · obtain ⟨n1, n2⟩ := hfs f _ q
      obtain ⟨b1, b2, b3, b4, b5⟩ := (h.2.2.1 f hf).2 h9 L9 n2
      exact ⟨(g.i (by omega)).trans b1, (g.i (by omega)).trans b2, (g.i (by omega)).trans b3, b4, fun i hi w hw => (g.i (by omega)).trans (b5 i hi w hw)⟩
    · obtain ⟨n1, n2⟩ := hfs f _ q
      exact (h.2.2.2.1 f hf h9 L9 n2 i hi).go (fun w hw => hw.of g (fun a k z => by omega)) (Or.inl rfl)
    · exact h.2.2.2.2.1 f hf h9 L9 (hfs f _ q).2 i hi
    · exact h.2.2.2.2.2 f h9 L9 (hfs f _ q).2
set_option maxRecDepth 100000 in
/-- what tells of formulas changes only the flag -/
theorem r243 (h : RV s t ns fs lt) (x : Int32) : ∃ v s', dm243 x s = some (v, s') ∧ RV s' t ns fs lt ∧ ch mA s s' := by
  rcases d243 h.2.2.1 x with ⟨-, e⟩ | ⟨ho, L, -, e⟩
  · exact ⟨_, _, e, h.t0 _⟩
  · exact ⟨_, _, e, h.t0 _⟩
set_option maxRecDepth 100000 in
theorem r244 (h : RV s t ns fs lt) (x y z : Int32) : ∃ v s', dm244 x y z s = some (v, s') ∧ RV s' t ns fs lt ∧ ch mA s s' := by
  rcases d244 h.2.2.1 x y z with ⟨-, e⟩ | ⟨ho, L, -, -, ⟨-, e⟩ | ⟨-, e⟩⟩
  · exact ⟨_, _, e, h.t0 _⟩
  · exact ⟨_, _, e, h.t0 _⟩
  · exact ⟨_, _, e, h.t0 _⟩
set_option maxRecDepth 100000 in
theorem r246 (h : RV s t ns fs lt) (x y z : Int32) : ∃ v s', dm246 x y z s = some (v, s') ∧ RV s' t ns fs lt ∧ ch mA s s' := by
  rcases d246 h.2.2.1 h.2.2.2.1 x y z with ⟨-, e⟩ | ⟨ho, L, -, -, e⟩
  · exact ⟨_, _, e, h.t0 _⟩
  · exact ⟨_, _, e, h.t0 _⟩
set_option maxRecDepth 100000 in
theorem r248 (h : RV s t ns fs lt) (x y : Int32) : ∃ v s', dm248 x y s = some (v, s') ∧ RV s' t ns fs lt ∧ ch mA s s' := by
  rcases d248 h.2.2.1 h.2.2.2.1 h.2.2.2.2.1 x y with ⟨-, e⟩ | ⟨h1, L, h2, M, -, -, e⟩
  · exact ⟨_, _, e, h.t0 _⟩
  · exact ⟨_, _, e, h.t0 _⟩
set_option maxRecDepth 100000 in
theorem r249 (h : RV s t ns fs lt) (x : Int32) : ∃ v s', dm249 x s = some (v, s') ∧ RV s' t ns fs lt ∧ ch mA s s' := by
  rcases d249 h.2.1 h.2.2.1 x with ⟨-, e⟩ | ⟨-, e⟩
  · exact ⟨_, _, e, h.t0 _⟩
  · exact ⟨_, _, e, h.t0 _⟩
set_option maxRecDepth 100000 in
theorem r232 (h : RV s t ns fs lt) (hn : nsOk ns) (x k : Int32) : ∃ v s', dm232 x k s = some (v, s') ∧ RV s' t ns fs lt ∧ ch mA s s' := by
  obtain ⟨v, s', e, g⟩ := w232 h.2.1 hn h.2.2.1 h.2.2.2.1 h.2.2.2.2.2 x k
  exact ⟨v, s', e, h.fl g (fun a k z => by omega), g.mono fun a k z => by unfold mA; omega⟩
set_option maxRecDepth 100000 in
/-- read -/
theorem r184 (h : RV s t ns fs lt) (hl : t.length ≤ 256) (hok : okT t) (hn : nsOk ns) (h147 : (sT s 147).2 = 256) (h122 : (sT s 122).2 = 256) (x1 x2 : Int32) : ∃ v s' fs' lt', dm184 x1 x2 s = some (v, s') ∧ RV s' t ns fs' lt' ∧ ch mA s s' := by
  have rm : ∀ a k, rdA x1.toInt.toNat a k → (a = 121 ∧ (k = 0 ∨ 21 ≤ k)) ∨ (125 ≤ a ∧ a ≤ 147) := fun a k z => by
    unfold rdA scr at z
    omega
  rcases d184 h.1 hl hok h.2.1 hn h.2.2.1 h.2.2.2.1 h147 h122 x1 x2 with ⟨-, e⟩ | ⟨cx, ⟨p, s', -, -, e, -, e2, e3, e4⟩ | ⟨L, s', eL, eF, e8, e, -, e2, e3, e4⟩⟩
  · exact ⟨_, _, fs, lt, e, h.t0 _⟩
  · exact ⟨_, s', fs, lt, e, ⟨h.1.of e4 (fun q => by have := rm _ _ q; omega) (fun j q => by have := rm _ _ q; omega), h.2.1.of e4 (fun a k q => by have := rm _ _ q; omega), e2, e3, h.2.2.2.2⟩, e4.mono fun a k z => by have := rm _ _ z; unfold mA; omega⟩
  · have gd := mRd_gd hn hl hok eL
    refine ⟨_, s', _, _, e, ⟨h.1.of e4 (fun q => by have := rm _ _ q; omega) (fun j q => by have := rm _ _ q; omega), h.2.1.of e4 (fun a k q => by have := rm _ _ q; omega), e2, e3, fun f hf h9 L9 q i hi => ?_, fun f h9 L9 q => ?_⟩, e4.mono fun a k z => by have := rm _ _ z; unfold mA; omega⟩
    · unfold fsRd at q
      unfold ltRd
      by_cases c : f = x1.toInt.toNat
      · rw [if_pos c] at q
        rw [if_pos c]
        cases q
        rw [List.length_map] at hi
        have hm : L.getD i dN ∈ L := by
          rw [List.getD, List.getElem?_eq_getElem hi]
          exact List.getElem_mem hi
        have := gd _ hm
        exact ⟨this.2.2.2.2.1, fun y hy => by have := this.2.2.2.2.2 y hy; omega⟩
      · rw [if_neg c] at q
        rw [if_neg c]
        exact h.2.2.2.2.1 f hf h9 L9 q i hi
    · unfold fsRd at q
      by_cases c : f = x1.toInt.toNat
      · rw [if_pos c] at q
        cases q
        refine ⟨eF, fun d hd => ?_⟩
        obtain ⟨n, n1, n2⟩ := List.mem_map.mp hd
        subst n2
        have := gd n n1
        exact ⟨this.1, this.2.1, this.2.2.1⟩
      · rw [if_neg c] at q
        exact h.2.2.2.2.2 f h9 L9 q
set_option maxRecDepth 100000 in
/-- move -/
theorem r224 (h : RV s t ns fs lt) (hn : nsOk ns) (x1 x2 x3 x4 x5 : Int32) : ∃ s' fs' lt', dm224 x1 x2 x3 x4 x5 s = some s' ∧ RV s' t ns fs' lt' ∧ ch mA s s' := by
  rcases d224x h.2.1 hn h.2.2.1 h.2.2.2.1 x1 x2 x3 x4 x5 with ⟨-, e⟩ | ⟨-, -, e⟩ | ⟨cV, -, h0, L, s', e0, e, e2, e3, -, e4⟩
  · exact ⟨_, fs, lt, e, h.t0 _⟩
  · exact ⟨_, fs, lt, e, h.t0 _⟩
  · obtain ⟨f1, f2⟩ := fAt_s e0
    refine ⟨s', _, _, e, ⟨h.1.of e4 (by omega) (fun j => by omega), h.2.1.of e4 (fun a k q => by omega), e2, e3, fun f hf h9 L9 q i hi => ?_, fun f h9 L9 q => ?_⟩, e4.mono fun a k z => by unfold mA; omega⟩
    · unfold fsMove at q
      unfold ltMv
      by_cases c : f = x5.toInt.toNat
      · rw [if_pos c] at q
        rw [if_pos c]
        cases q
        rw [List.length_map] at hi
        exact h.2.2.2.2.1 _ (by omega) h0 L f2 i hi
      · rw [if_neg c] at q
        rw [if_neg c]
        exact h.2.2.2.2.1 f hf h9 L9 q i hi
    · unfold fsMove at q
      by_cases c : f = x5.toInt.toNat
      · rw [if_pos c] at q
        cases q
        obtain ⟨o1, o2⟩ := h.2.2.2.2.2 _ h0 L f2
        refine ⟨ft_map (fun d => (mv_map d).2) L 1 o1, fun d hd => ?_⟩
        obtain ⟨n, n1, n2⟩ := List.mem_map.mp hd
        subst n2
        obtain ⟨p1, p2, p3⟩ := o2 n n1
        exact ⟨mv_okd p1, ar_map p2 (mv_map n).1 (mv_map n).2, mv_s2 p3⟩
      · rw [if_neg c] at q
        exact h.2.2.2.2.2 f h9 L9 q
set_option maxRecDepth 100000 in
/-- shift -/
theorem r228 (h : RV s t ns fs lt) (hn : nsOk ns) (x y k n : Int32) : ∃ v s' fs', dm228 x y k n s = some (v, s') ∧ RV s' t ns fs' lt ∧ ch mA s s' := by
  rcases d228 h.2.1 hn h.2.2.1 x y k n with ⟨-, e⟩ | ⟨-, -, e⟩ | ⟨cx, cn, s', e, e2, -, e4⟩
  · exact ⟨_, _, fs, e, h.t0 _⟩
  · exact ⟨_, _, fs, e, h.t0 _⟩
  · have hfs : ∀ f h9 L9, fsShM x y k n (lastT y) fs f = some (h9, L9) → ∃ L, fs f = some (h9, L) ∧ L9 = L.map (shM x y k n (lastT y) h9) := fun f h9 L9 q => by
      unfold fsShM at q
      cases hq : fs f with
      | none =>
        rw [hq] at q
        cases q
      | some v =>
        obtain ⟨h0, L⟩ := v
        rw [hq] at q
        cases q
        exact ⟨L, rfl, rfl⟩
    refine ⟨_, s', _, e, ⟨h.1.of e4 (by omega) (fun j => by omega), h.2.1.of e4 (fun a k q => by omega), e2, fun f hf h9 L9 q i hi => ?_, fun f hf h9 L9 q i hi => ?_, fun f h9 L9 q => ?_⟩, e4.mono fun a k z => by unfold mA; omega⟩
    · obtain ⟨L, q1, q2⟩ := hfs f h9 L9 q
      subst q2
      have hi2 : i < L.length := by rw [List.length_map] at hi; exact hi
      rw [List.getElem_map]
      exact (h.2.2.2.1 f hf h9 L q1 i hi2).go (fun w hw => hw.of e4 (fun a k z => by omega)) (sh_map L[i]).1
    · obtain ⟨L, q1, q2⟩ := hfs f h9 L9 q
      subst q2
      rw [List.length_map] at hi
      exact h.2.2.2.2.1 f hf h9 L q1 i hi
    · obtain ⟨L, q1, q2⟩ := hfs f h9 L9 q
      subst q2
      obtain ⟨o1, o2⟩ := h.2.2.2.2.2 f h9 L q1
      refine ⟨ft_map (fun d => (sh_map d).2) L 1 o1, fun d hd => ?_⟩
      obtain ⟨m, n1, n2⟩ := List.mem_map.mp hd
      subst n2
      obtain ⟨p1, p2, p3⟩ := o2 m n1
      exact ⟨sh_ok p1 (bey_rg cn.1) cn.2, ar_map p2 (sh_map m).1 (sh_map m).2, sh_2 p3⟩
set_option maxRecDepth 100000 in
/-- drop -/
theorem r182 (h : RV s t ns fs lt) (hn : nsOk ns) (x : Int32) : (¬ (0 ≤ x.toInt ∧ x.toInt < ns.length) ∧ ∃ s', dm182 x s = some s' ∧ sI s' 121 0 = 1 ∧ RV s' t ns fs lt ∧ ch mA s s') ∨ ((0 ≤ x.toInt ∧ x.toInt < ns.length) ∧ ∃ s' fs', dm182 x s = some s' ∧ sI s' 121 0 = 0 ∧ RV s' t (ns.eraseIdx x.toInt.toNat) fs' lt ∧ ch mA s s') := by
  rcases d182 h.2.1 hn h.2.2.1 x with ⟨c, e⟩ | ⟨c, s', e, e1, e2, e3, e4⟩
  · exact Or.inl ⟨c, _, e, (by rw [sI_wI, if_pos ⟨rfl, rfl⟩]), h.t0 _⟩
  · refine Or.inr ⟨c, s', fsDropM x fs, e, e3, ?_, e4.mono fun a k z => by unfold mA; omega⟩
    have hfs : ∀ f h9 L9, fsDropM x fs f = some (h9, L9) → ∃ h0 L, fs f = some (h0, L) ∧ L9 = L.map (lsM x) := fun f h9 L9 q => by
      unfold fsDropM at q
      cases hq : fs f with
      | none =>
        rw [hq] at q
        cases q
      | some v =>
        obtain ⟨h0, L⟩ := v
        rw [hq] at q
        have q : (if h0 = x then none else some (if h0 ≤ x then h0 else h0 - 1, L.map (lsM x))) = some (h9, L9) := q
        by_cases c : h0 = x
        · rw [if_pos c] at q
          cases q
        · rw [if_neg c] at q
          cases q
          exact ⟨h0, L, rfl, rfl⟩
    refine ⟨h.1.of e4 (by omega) (fun j => by omega), e1, e2, fun f hf h9 L9 q i hi => ?_, fun f hf h9 L9 q i hi => ?_, fun f h9 L9 q => ?_⟩
    · obtain ⟨h0, L, q1, q2⟩ := hfs f h9 L9 q
      subst q2
      have hi2 : i < L.length := by rw [List.length_map] at hi; exact hi
      rw [List.getElem_map]
      exact (h.2.2.2.1 f hf h0 L q1 i hi2).go (fun w hw => hw.of e4 (fun a k z => by omega)) (ls_map c.1 ((h.2.2.2.2.2 f h0 L q1).2 L[i] (List.getElem_mem hi2)).1).1
    · obtain ⟨h0, L, q1, q2⟩ := hfs f h9 L9 q
      subst q2
      rw [List.length_map] at hi
      exact h.2.2.2.2.1 f hf h0 L q1 i hi
    · obtain ⟨h0, L, q1, q2⟩ := hfs f h9 L9 q
      subst q2
      obtain ⟨o1, o2⟩ := h.2.2.2.2.2 f h0 L q1
      refine ⟨?_, fun d hd => ?_⟩
      · have key : ∀ (M : List Nd) (k : Nat), (∀ d ∈ M, ndOk d) → ft M k → ft (M.map (lsM x)) k := by
          intro M
          induction M with
          | nil => exact fun k _ z => z
          | cons d M ih =>
            intro k hM hz
            obtain ⟨z1, z2⟩ := hz
            have e : arN (lsM x d) = arN d := by unfold arN; rw [(ls_map c.1 (hM d List.mem_cons_self)).2]
            refine ⟨z1, ?_⟩
            rw [e]
            exact ih _ (fun d hd => hM d (List.mem_cons_of_mem _ hd)) z2
        exact key L 1 (fun d hd => (o2 d hd).1) o1
      · obtain ⟨m, n1, n2⟩ := List.mem_map.mp hd
        subst n2
        obtain ⟨p1, p2, p3⟩ := o2 m n1
        refine ⟨by rw [ls_eq c.1 p1]; exact ls_ok c.1 p1, ar_map p2 (ls_map c.1 p1).1 (ls_map c.1 p1).2, ?_⟩
        have := ls_2 c p1 p3
        rw [List.length_eraseIdx_of_lt (by omega)]
        omega
end RVs
end
section
/-! both sides together: steps of the law -/
def SS (tt : Nat) (xs : List Int32) (s : aS) (t : List Int32) (ns : List (List Int32)) (fs : Nat → Option Fm) (lt : Nat → Nat → List Int32) : Prop := Ly tt (cCc xs) s ∧ CV s t ns ∧ RV s t ns fs lt
set_option maxRecDepth 100000 in
theorem zG1_n {a : Nat} (h1 : 121 ≤ a) (h2 : a ≤ 147) : zG 1 a = false := by
  show (decide (a < 121) || decide (148 ≤ a)) = false
  rw [decide_eq_false (by omega), decide_eq_false (by omega)]
  rfl
section SSs
variable {tt : Nat} {xs : List Int32} {s s1 : aS} {t : List Int32} {ns : List (List Int32)} {fs : Nat → Option Fm} {lt : Nat → Nat → List Int32}
set_option maxRecDepth 100000 in
theorem RV.ex (h : RV s t ns fs lt) (hl : Ly tt (cCc xs) s) (e : ext (zG 1) s s1) : RV s1 t ns fs lt := h.same fun a k h1 h2 => (e.2.2.1 a (by have : 149 ≤ sL s := hl.1; omega) (zG1_n h1 h2)).1 k
set_option maxRecDepth 100000 in
theorem CV.j {k : Nat} {v : Int64} (h : CV s t ns) : CV (wJ s 148 k v) t ns := by
  obtain ⟨⟨a1, a2⟩, ⟨b1, b2⟩, c1, d1, e1⟩ := h
  exact ⟨⟨a1, a2⟩, ⟨b1, b2⟩, c1, d1, e1⟩
set_option maxRecDepth 100000 in
theorem CV.m (h : CV s t ns) (hl : Ly tt (cCc xs) s) (g : ch mA s s1) : CV s1 t ns := h.of hl g (fun a k z => by unfold mA at z; omega)
set_option maxRecDepth 100000 in
theorem gw.j {k : Nat} {v : Int64} (h : gw s s1) : gw s (wJ s1 148 k v) := h
set_option maxRecDepth 100000 in
theorem a01 : aB 0 1 := aB_iff.mpr ⟨by decide, by decide⟩
set_option maxRecDepth 100000 in
/-- wrappers -/
theorem wrI {D : Option (xZ × aS)} (h : Cm s t ns pI D) : ∃ k s1, (bv D fun z4 s3 => zN z4 (fun v5 => vI v5 fun r7 => if aB 0 1 then nx (wJ s3 148 (jN 0) r7.toInt64) fun s10 => some (((0 : Int32), s10)) else none) fun e6 => if e6 = 2 then some (1, s3) else none) = some (k, s1) ∧ CV s1 t ns ∧ gw s s1 := by
  obtain ⟨o, s1, e, hp, hv, hg⟩ := h
  rw [e]
  simp only [bv_some]
  rcases hp with ⟨v, rfl⟩ | rfl
  · rw [zN_l, vI_int, if_pos a01, nx_eq]
    exact ⟨_, _, rfl, hv.j, hg.j⟩
  · rw [zN_r, if_pos rfl]
    exact ⟨_, _, rfl, hv, hg⟩
set_option maxRecDepth 100000 in
theorem wrJ {D : Option (xZ × aS)} (h : Cm s t ns pJ D) : ∃ k s1, (bv D fun z4 s3 => zN z4 (fun v5 => vI v5 fun r7 => if aB 0 1 then nx (wJ s3 148 (jN 0) r7.toInt64) fun s10 => some (((0 : Int32), s10)) else none) fun e6 => if e6 = 2 then some (1, s3) else if e6 = 0 then some (2, s3) else none) = some (k, s1) ∧ CV s1 t ns ∧ gw s s1 := by
  obtain ⟨o, s1, e, hp, hv, hg⟩ := h
  rw [e]
  simp only [bv_some]
  rcases hp with ⟨v, rfl⟩ | rfl | rfl
  · rw [zN_l, vI_int, if_pos a01, nx_eq]
    exact ⟨_, _, rfl, hv.j, hg.j⟩
  · rw [zN_r, if_pos rfl]
    exact ⟨_, _, rfl, hv, hg⟩
  · rw [zN_r, if_neg (by decide), if_pos rfl]
    exact ⟨_, _, rfl, hv, hg⟩
set_option maxRecDepth 100000 in
theorem wrT {D : Option (xZ × aS)} (h : Cm s t ns pC D) : ∃ k s1, (bv D fun z4 s3 => zN z4 (fun v5 => vI v5 fun r7 => if aB 0 1 then nx (wJ s3 148 (jN 0) r7.toInt64) fun s10 => some (((0 : Int32), s10)) else none) fun e6 => if e6 = 0 then some (1, s3) else none) = some (k, s1) ∧ CV s1 t ns ∧ gw s s1 := by
  obtain ⟨o, s1, e, hp, hv, hg⟩ := h
  rw [e]
  simp only [bv_some]
  rcases hp with ⟨v, rfl⟩ | rfl
  · rw [zN_l, vI_int, if_pos a01, nx_eq]
    exact ⟨_, _, rfl, hv.j, hg.j⟩
  · rw [zN_r, if_pos rfl]
    exact ⟨_, _, rfl, hv, hg⟩
set_option maxRecDepth 100000 in
theorem wrS {D : Option (xZ × aS)} (h : Cm s t ns pI D) : ∃ k s1, (bv D fun z4 s3 => zN z4 (fun v5 => vI v5 fun r7 => if r7 = 0 then dm13_10 0 0 s3 else dm13_10 0 1 s3) fun e6 => if e6 = 2 then some (1, s3) else none) = some (k, s1) ∧ CV s1 t ns ∧ gw s s1 := by
  obtain ⟨o, s1, e, hp, hv, hg⟩ := h
  rw [e]
  simp only [bv_some]
  rcases hp with ⟨v, rfl⟩ | rfl
  · rw [zN_l, vI_int]
    unfold dm13_10
    rw [if_pos a01, if_pos a01]
    simp only [nx_eq]
    split
    · exact ⟨_, _, rfl, hv.j, hg.j⟩
    · exact ⟨_, _, rfl, hv.j, hg.j⟩
  · rw [zN_r, if_pos rfl]
    exact ⟨_, _, rfl, hv, hg⟩
set_option maxRecDepth 100000 in
theorem wrN {D : Option (xZ × aS)} (h : Cm s t ns pN D) : ∃ k s1, (bv D fun z4 s3 => zN z4 (fun v5 => vV v5 <| some (((0 : Int32), s3))) fun e6 => if e6 = 2 then some (1, s3) else none) = some (k, s1) ∧ CV s1 t ns ∧ gw s s1 := by
  obtain ⟨o, s1, e, hp, hv, hg⟩ := h
  rw [e]
  simp only [bv_some]
  rcases hp with rfl | rfl
  · rw [zN_l, vV_none]
    exact ⟨_, _, rfl, hv, hg⟩
  · rw [zN_r, if_pos rfl]
    exact ⟨_, _, rfl, hv, hg⟩
set_option maxRecDepth 100000 in
theorem wrM {D : Option (xZ × aS)} (h : Cm s t ns pM D) : ∃ k s1, (bv D fun z4 s3 => zN z4 (fun v5 => vV v5 <| some (((0 : Int32), s3))) fun e6 => if e6 = 2 then some (1, s3) else if e6 = 0 then some (2, s3) else none) = some (k, s1) ∧ CV s1 t ns ∧ gw s s1 := by
  obtain ⟨o, s1, e, hp, hv, hg⟩ := h
  rw [e]
  simp only [bv_some]
  rcases hp with rfl | rfl | rfl
  · rw [zN_l, vV_none]
    exact ⟨_, _, rfl, hv, hg⟩
  · rw [zN_r, if_pos rfl]
    exact ⟨_, _, rfl, hv, hg⟩
  · rw [zN_r, if_neg (by decide), if_pos rfl]
    exact ⟨_, _, rfl, hv, hg⟩
set_option maxRecDepth 100000 in
/-- a call of FormulaTrees, then the reference's -/
theorem kc5 (h : SS tt xs s t ns fs lt) (x1 x2 : Int32) : ∃ k s1, dm5 x1 x2 s = some (k, s1) ∧ SS tt xs s1 t ns fs lt ∧ gw s s1 := by
  obtain ⟨k, s1, e, hv, hg⟩ := wrI (y62 h.2.1 h.1 x1 x2)
  have e : dm5 x1 x2 s = some (k, s1) := e
  have q := dt5 (sio := true) (d := 2000) (by decide) h.1 e
  exact ⟨k, s1, e, ⟨q.1, hv, h.2.2.ex h.1 q.2.1⟩, hg⟩
set_option maxRecDepth 100000 in
theorem kc6 (h : SS tt xs s t ns fs lt) (x1 x2 x3 x4 x5 : Int32) : ∃ k s1, dm6 x1 x2 x3 x4 x5 s = some (k, s1) ∧ SS tt xs s1 t ns fs lt ∧ gw s s1 := by
  obtain ⟨k, s1, e, hv, hg⟩ := wrM (y125 h.2.1 h.1 x1 x2 x3 x4 x5)
  have e : dm6 x1 x2 x3 x4 x5 s = some (k, s1) := e
  have q := dt6 (sio := true) (d := 2000) (by decide) h.1 e
  exact ⟨k, s1, e, ⟨q.1, hv, h.2.2.ex h.1 q.2.1⟩, hg⟩
set_option maxRecDepth 100000 in
theorem kc7 (h : SS tt xs s t ns fs lt) (x1 x2 x3 x4 : Int32) : ∃ k s1, dm7 x1 x2 x3 x4 s = some (k, s1) ∧ SS tt xs s1 t ns fs lt ∧ gw s s1 := by
  obtain ⟨k, s1, e, hv, hg⟩ := wrJ (y133 h.2.1 h.1 x1 x2 x3 x4)
  have e : dm7 x1 x2 x3 x4 s = some (k, s1) := e
  have q := dt7 (sio := true) (d := 2000) (by decide) h.1 e
  exact ⟨k, s1, e, ⟨q.1, hv, h.2.2.ex h.1 q.2.1⟩, hg⟩
set_option maxRecDepth 100000 in
theorem kc8 (h : SS tt xs s t ns fs lt) (x1 : Int32) : ∃ k s1, dm8 x1 s = some (k, s1) ∧ SS tt xs s1 t ns fs lt ∧ gw s s1 := by
  obtain ⟨k, s1, e, hv, hg⟩ := wrN (y137 h.2.1 h.1 x1)
  have e : dm8 x1 s = some (k, s1) := e
  have q := dt8 (sio := true) (d := 2000) (by decide) h.1 e
  exact ⟨k, s1, e, ⟨q.1, hv, h.2.2.ex h.1 q.2.1⟩, hg⟩
set_option maxRecDepth 100000 in
theorem kc9 (h : SS tt xs s t ns fs lt) (x1 x2 : Int32) : ∃ k s1, dm9 x1 x2 s = some (k, s1) ∧ SS tt xs s1 t ns fs lt ∧ gw s s1 := by
  obtain ⟨k, s1, e, hv, hg⟩ := wrI (y138 h.2.1 h.1 x1 x2)
  have e : dm9 x1 x2 s = some (k, s1) := e
  have q := dt9 (sio := true) (d := 2000) (by decide) h.1 e
  exact ⟨k, s1, e, ⟨q.1, hv, h.2.2.ex h.1 q.2.1⟩, hg⟩
set_option maxRecDepth 100000 in
theorem kc10 (h : SS tt xs s t ns fs lt) (x1 : Int32) : ∃ k s1, dm10 x1 s = some (k, s1) ∧ SS tt xs s1 t ns fs lt ∧ gw s s1 := by
  obtain ⟨k, s1, e, hv, hg⟩ := wrI (y159 h.2.1 h.1 x1)
  have e : dm10 x1 s = some (k, s1) := e
  have q := dt10 (sio := true) (d := 2000) (by decide) h.1 e
  exact ⟨k, s1, e, ⟨q.1, hv, h.2.2.ex h.1 q.2.1⟩, hg⟩
set_option maxRecDepth 100000 in
theorem kc11 (h : SS tt xs s t ns fs lt) (x1 x2 x3 : Int32) : ∃ k s1, dm11 x1 x2 x3 s = some (k, s1) ∧ SS tt xs s1 t ns fs lt ∧ gw s s1 := by
  obtain ⟨k, s1, e, hv, hg⟩ := wrJ (y160 h.2.1 h.1 x1 x2 x3)
  have e : dm11 x1 x2 x3 s = some (k, s1) := e
  have q := dt11 (sio := true) (d := 2000) (by decide) h.1 e
  exact ⟨k, s1, e, ⟨q.1, hv, h.2.2.ex h.1 q.2.1⟩, hg⟩
set_option maxRecDepth 100000 in
theorem kc12 (h : SS tt xs s t ns fs lt) (x1 x2 x3 : Int32) : ∃ k s1, dm12 x1 x2 x3 s = some (k, s1) ∧ SS tt xs s1 t ns fs lt ∧ gw s s1 := by
  obtain ⟨k, s1, e, hv, hg⟩ := wrI (y162 h.2.1 h.1 x1 x2 x3)
  have e : dm12 x1 x2 x3 s = some (k, s1) := e
  have q := dt12 (sio := true) (d := 2000) (by decide) h.1 e
  exact ⟨k, s1, e, ⟨q.1, hv, h.2.2.ex h.1 q.2.1⟩, hg⟩
set_option maxRecDepth 100000 in
theorem kc13 (h : SS tt xs s t ns fs lt) (x1 x2 : Int32) : ∃ k s1, dm13 x1 x2 s = some (k, s1) ∧ SS tt xs s1 t ns fs lt ∧ gw s s1 := by
  obtain ⟨k, s1, e, hv, hg⟩ := wrS (y163 h.2.1 h.1 x1 x2)
  have e : dm13 x1 x2 s = some (k, s1) := e
  have q := dt13 (sio := true) (d := 2000) (by decide) h.1 e
  exact ⟨k, s1, e, ⟨q.1, hv, h.2.2.ex h.1 q.2.1⟩, hg⟩
set_option maxRecDepth 100000 in
theorem kc14 (h : SS tt xs s t ns fs lt) (x1 : Int32) : ∃ k s1, dm14 x1 s = some (k, s1) ∧ SS tt xs s1 t ns fs lt ∧ gw s s1 := by
  obtain ⟨k, s1, e, hv, hg⟩ := wrT (y166 h.2.1 h.1 x1)
  have e : dm14 x1 s = some (k, s1) := e
  have q := dt14 (sio := true) (d := 2000) (by decide) h.1 e
  exact ⟨k, s1, e, ⟨q.1, hv, h.2.2.ex h.1 q.2.1⟩, hg⟩
set_option maxRecDepth 100000 in
/-- the reference's -/
theorem ms184 (h : SS tt xs s t ns fs lt) (x1 x2 : Int32) : ∃ v s1 fs1 lt1, dm184 x1 x2 s = some (v, s1) ∧ SS tt xs s1 t ns fs1 lt1 ∧ ch mA s s1 := by
  obtain ⟨v, s1, fs1, lt1, e, hr, g⟩ := r184 h.2.2 h.2.1.1.2.1 h.2.1.1.2.2 h.2.1.2.1.2 (by rw [h.1.T (a := 147) (p := (100, 256)) 69 rfl rfl]) (by rw [h.1.T (a := 122) (p := (100, 256)) 44 rfl rfl]) x1 x2
  have q := dt184 (sio := true) (d := 2000) (by decide) h.1 e
  exact ⟨v, s1, fs1, lt1, e, ⟨q.1, h.2.1.m h.1 g, hr⟩, g⟩
set_option maxRecDepth 100000 in
theorem ms224 (h : SS tt xs s t ns fs lt) (x1 x2 x3 x4 x5 : Int32) : ∃ s1 fs1 lt1, dm224 x1 x2 x3 x4 x5 s = some s1 ∧ SS tt xs s1 t ns fs1 lt1 ∧ ch mA s s1 := by
  obtain ⟨s1, fs1, lt1, e, hr, g⟩ := r224 h.2.2 h.2.1.2.1.2 x1 x2 x3 x4 x5
  have q := dt224 (sio := true) (d := 2000) (by decide) h.1 e
  exact ⟨s1, fs1, lt1, e, ⟨q.1, h.2.1.m h.1 g, hr⟩, g⟩
set_option maxRecDepth 100000 in
theorem ms228 (h : SS tt xs s t ns fs lt) (x1 x2 x3 x4 : Int32) : ∃ v s1 fs1, dm228 x1 x2 x3 x4 s = some (v, s1) ∧ SS tt xs s1 t ns fs1 lt ∧ ch mA s s1 := by
  obtain ⟨v, s1, fs1, e, hr, g⟩ := r228 h.2.2 h.2.1.2.1.2 x1 x2 x3 x4
  have q := dt228 (sio := true) (d := 2000) (by decide) h.1 e
  exact ⟨v, s1, fs1, e, ⟨q.1, h.2.1.m h.1 g, hr⟩, g⟩
set_option maxRecDepth 100000 in
theorem ms231 (h : SS tt xs s t ns fs lt) (x1 : Int32) : ∃ s1 fs1, dm231 x1 s = some s1 ∧ SS tt xs s1 t ns fs1 lt ∧ ch mA s s1 := by
  obtain ⟨s1, fs1, e, hr, g⟩ := r231 h.2.2 x1
  have q := dt231 (sio := true) (d := 2000) (by decide) h.1 e
  exact ⟨s1, fs1, e, ⟨q.1, h.2.1.m h.1 g, hr⟩, g⟩
set_option maxRecDepth 100000 in
theorem ms232 (h : SS tt xs s t ns fs lt) (x1 x2 : Int32) : ∃ v s1, dm232 x1 x2 s = some (v, s1) ∧ SS tt xs s1 t ns fs lt ∧ ch mA s s1 := by
  obtain ⟨v, s1, e, hr, g⟩ := r232 h.2.2 h.2.1.2.1.2 x1 x2
  have q := dt232 (sio := true) (d := 2000) (by decide) h.1 e
  exact ⟨v, s1, e, ⟨q.1, h.2.1.m h.1 g, hr⟩, g⟩
set_option maxRecDepth 100000 in
theorem ms243 (h : SS tt xs s t ns fs lt) (x1 : Int32) : ∃ v s1, dm243 x1 s = some (v, s1) ∧ SS tt xs s1 t ns fs lt ∧ ch mA s s1 := by
  obtain ⟨v, s1, e, hr, g⟩ := r243 h.2.2 x1
  have q := dt243 (sio := true) (d := 2000) (by decide) h.1 e
  exact ⟨v, s1, e, ⟨q.1, h.2.1.m h.1 g, hr⟩, g⟩
set_option maxRecDepth 100000 in
theorem ms244 (h : SS tt xs s t ns fs lt) (x1 x2 x3 : Int32) : ∃ v s1, dm244 x1 x2 x3 s = some (v, s1) ∧ SS tt xs s1 t ns fs lt ∧ ch mA s s1 := by
  obtain ⟨v, s1, e, hr, g⟩ := r244 h.2.2 x1 x2 x3
  have q := dt244 (sio := true) (d := 2000) (by decide) h.1 e
  exact ⟨v, s1, e, ⟨q.1, h.2.1.m h.1 g, hr⟩, g⟩
set_option maxRecDepth 100000 in
theorem ms246 (h : SS tt xs s t ns fs lt) (x1 x2 x3 : Int32) : ∃ v s1, dm246 x1 x2 x3 s = some (v, s1) ∧ SS tt xs s1 t ns fs lt ∧ ch mA s s1 := by
  obtain ⟨v, s1, e, hr, g⟩ := r246 h.2.2 x1 x2 x3
  have q := dt246 (sio := true) (d := 2000) (by decide) h.1 e
  exact ⟨v, s1, e, ⟨q.1, h.2.1.m h.1 g, hr⟩, g⟩
set_option maxRecDepth 100000 in
theorem ms248 (h : SS tt xs s t ns fs lt) (x1 x2 : Int32) : ∃ v s1, dm248 x1 x2 s = some (v, s1) ∧ SS tt xs s1 t ns fs lt ∧ ch mA s s1 := by
  obtain ⟨v, s1, e, hr, g⟩ := r248 h.2.2 x1 x2
  have q := dt248 (sio := true) (d := 2000) (by decide) h.1 e
  exact ⟨v, s1, e, ⟨q.1, h.2.1.m h.1 g, hr⟩, g⟩
set_option maxRecDepth 100000 in
theorem ms249 (h : SS tt xs s t ns fs lt) (x1 : Int32) : ∃ v s1, dm249 x1 s = some (v, s1) ∧ SS tt xs s1 t ns fs lt ∧ ch mA s s1 := by
  obtain ⟨v, s1, e, hr, g⟩ := r249 h.2.2 x1
  have q := dt249 (sio := true) (d := 2000) (by decide) h.1 e
  exact ⟨v, s1, e, ⟨q.1, h.2.1.m h.1 g, hr⟩, g⟩
end SSs
end
section
/-! calls that change text and names, and name: both answer the same -/
section SSs
variable {tt : Nat} {xs : List Int32} {s s1 : aS} {t : List Int32} {ns : List (List Int32)} {fs : Nat → Option Fm} {lt : Nat → Nat → List Int32}
set_option maxRecDepth 100000 in
theorem okT_ap {t u : List Int32} (h : okT t) (g : okT u) : okT (t ++ u) := fun x hx => (List.mem_append.mp hx).elim (h x) (g x)
set_option maxRecDepth 100000 in
/-- both sides are done: the new state -/
theorem SS.on {t1 : List Int32} {ns1 : List (List Int32)} {s2 : aS} (l2 : Ly tt (cCc xs) s2) (l1 : Ly tt (cCc xs) s1) (hv : CV s1 t1 ns1) (g : ch mA s1 s2) (hr : RV s2 t1 ns1 fs lt) : SS tt xs s2 t1 ns1 fs lt := ⟨l2, hv.m l1 g, hr⟩
set_option maxRecDepth 100000 in
theorem jj {k : Nat} {A : Nat → Nat → Prop} {s2 : aS} (g : ch A s1 s2) (h : ¬ A 148 k) : sJ s2 148 k = sJ s1 148 k := (g.2.2 148 k h).2.2
set_option maxRecDepth 100000 in
theorem q_type (h : SS tt xs s t ns fs lt) (x : Int32) : ∃ k s1 b s2 t1, dm1 x s = some (k, s1) ∧ Ly tt (cCc xs) s1 ∧ dm172 x s1 = some (b, s2) ∧ sI s2 121 0 = k ∧ (k = 0 → sJ s2 148 0 = b.toInt64) ∧ SS tt xs s2 t1 ns fs lt ∧ gw s s2 := by
  obtain ⟨hl, hv, hr⟩ := h
  have T80 : (sT s 80).2 = 256 := (RC.ly hl).1
  have fin : ∀ k s1, dm1 x s = some (k, s1) → Ly tt (cCc xs) s1 ∧ RV s1 t ns fs lt := fun k s1 e => by
    have q := dt1 (sio := true) (d := 2000) (by decide) hl e
    exact ⟨q.1, hr.ex hl q.2.1⟩
  rcases t27 (x := x) hv.1.1 T80 hv.1.2.1 with ⟨c, e⟩ | ⟨c, c2, e⟩ | ⟨c, c2, s1, e, e1, e2⟩
  · have e1 : dm1 x s = some (1, nw s 80 0) := by
      unfold dm1
      rw [e]
      rfl
    obtain ⟨l1, v1⟩ := fin _ _ e1
    rcases t172 (x := x) v1.1 hv.1.2.1 with ⟨d, f⟩ | ⟨d, -⟩ | ⟨d, -⟩
    · have q := dt172 (sio := true) (d := 2000) (by decide) l1 f
      exact ⟨_, _, _, _, t, e1, l1, f, by rw [sI_wI, if_pos ⟨rfl, rfl⟩], fun z => absurd z (by decide), SS.on q.1 l1 (hv.thr hl (by decide)) (v1.t0 1).2 (v1.t0 1).1, (gw_nw s).tr (v1.t0 1).2⟩
    · exact absurd d c
    · exact absurd d c
  · have e1 : dm1 x s = some (2, nw s 81 0) := by
      unfold dm1
      rw [e]
      rfl
    obtain ⟨l1, v1⟩ := fin _ _ e1
    rcases t172 (x := x) v1.1 hv.1.2.1 with ⟨d, f⟩ | ⟨d, -, f⟩ | ⟨d, d2, -⟩
    · exact absurd c d
    · have q := dt172 (sio := true) (d := 2000) (by decide) l1 f
      exact ⟨_, _, _, _, t, e1, l1, f, by rw [sI_wI, if_pos ⟨rfl, rfl⟩], fun z => absurd z (by decide), SS.on q.1 l1 (hv.thr hl (by decide)) (v1.t0 2).2 (v1.t0 2).1, (gw_nw s).tr (v1.t0 2).2⟩
    · omega
  · have e3 : dm1 x s = some (0, wJ s1 148 (jN 0) (Int32.ofNat (t ++ nzF x 4 0).length).toInt64) := by
      unfold dm1
      rw [e]
      simp only [bv_some]
      rw [zN_l, vI_int, if_pos a01, nx_eq]
    obtain ⟨l1, v1⟩ := fin _ _ e3
    have hlen : (t ++ nzF x 4 0).length ≤ 256 := by rw [List.length_append, nzF_len]; exact c2
    have hok : okT (t ++ nzF x 4 0) := okT_ap hv.1.2.2 (nzF_ok x 4 0 c)
    have w1 : CV (wJ s1 148 (jN 0) (Int32.ofNat (t ++ nzF x 4 0).length).toInt64) (t ++ nzF x 4 0) ns := (hv.tx hl (e2.mono fun a k z => by omega) e1 ⟨hlen, hok⟩).j
    rcases t172 (x := x) v1.1 hv.1.2.1 with ⟨d, -⟩ | ⟨d, d2, -⟩ | ⟨d, d2, s2, f, f1, f2, f3⟩
    · exact absurd c d
    · omega
    · have q := dt172 (sio := true) (d := 2000) (by decide) l1 f
      have g : ch mA (wJ s1 148 (jN 0) (Int32.ofNat (t ++ nzF x 4 0).length).toInt64) s2 := f3.mono fun a k z => by unfold mA; omega
      refine ⟨_, _, _, s2, t ++ nzF x 4 0, e3, l1, f, f2, fun _ => ?_, SS.on q.1 l1 w1 g ⟨f1, v1.2.1.of f3 (fun a k z => by omega), v1.2.2.1.of f3 (fun a k z => by omega), v1.2.2.2.1.of f3 (fun a k z => by omega), v1.2.2.2.2⟩, ?_⟩
      · rw [jj f3 (by omega), sJ_wJ, if_pos ⟨rfl, rfl⟩]
      · exact ((gw_ch e2).j (k := jN 0) (v := (Int32.ofNat (t ++ nzF x 4 0).length).toInt64)).tr f3
set_option maxRecDepth 100000 in
theorem q_erase (h : SS tt xs s t ns fs lt) : ∃ s1 s2, dm25 s = some s1 ∧ dm173 s1 = some s2 ∧ SS tt xs s2 [] ns fs lt ∧ gw s s2 := by
  obtain ⟨hl, hv, hr⟩ := h
  have e : dm25 s = some (wI s 79 1 0) := rfl
  have g1 : ch (fun a _ => a = 79 ∨ a = 80) s (wI s 79 1 0) := (ch.refl _ s).wI (Or.inl rfl)
  have q := dt25 (sio := true) (d := 2000) (by decide) hl e
  have w1 : CV (wI s 79 1 0) [] ns := hv.tx hl g1 ⟨by rw [sI_wI, if_pos ⟨rfl, rfl⟩]; rfl, fun j hj => absurd hj (Nat.not_lt_zero j)⟩ ⟨Nat.zero_le _, fun y hy => (by cases hy)⟩
  obtain ⟨s2, f, f1, f2⟩ := r173 (hr.ex hl q.2.1)
  have q2 := dt173 (sio := true) (d := 2000) (by decide) q.1 f
  exact ⟨_, s2, e, f, SS.on q2.1 q.1 w1 f2 f1, (gw_ch g1).tr f2⟩
set_option maxRecDepth 100000 in
theorem ok_ap (h : nsOk ns) (h8 : ns.length < 8) (ht : nmP t) (ho : okT t) : nsOk (ns ++ [t]) := by
  refine ⟨by rw [List.length_append]; show ns.length + 1 ≤ 8; omega, fun n hn => ?_⟩
  rcases List.mem_append.mp hn with z | z
  · exact h.2 n z
  · rw [List.mem_singleton.mp z]
    exact ⟨ht.1, ht.2.1, ho⟩
set_option maxRecDepth 100000 in
theorem q_sheet (h : SS tt xs s t ns fs lt) : ∃ k s1 b s2 ns1, dm2 s = some (k, s1) ∧ Ly tt (cCc xs) s1 ∧ dm174 s1 = some (b, s2) ∧ sI s2 121 0 = k ∧ (k = 0 → sJ s2 148 0 = b.toInt64) ∧ SS tt xs s2 t ns1 fs lt ∧ gw s s2 := by
  obtain ⟨hl, hv, hr⟩ := h
  have fin : ∀ k s1, dm2 s = some (k, s1) → Ly tt (cCc xs) s1 ∧ RV s1 t ns fs lt := fun k s1 e => by
    have q := dt2 (sio := true) (d := 2000) (by decide) hl e
    exact ⟨q.1, hr.ex hl q.2.1⟩
  have T122 : ∀ s1, Ly tt (cCc xs) s1 → (sT s1 122).2 = 256 := fun s1 l1 => by rw [l1.T (a := 122) (p := (100, 256)) 44 rfl rfl]
  rcases d30 hv.2.1.1 (RC.ly hl) hv.2.1.2 (FB.ly hl) (TF.ly hl) hv.1.1 hv.1.2.1 hv.1.2.2 with ⟨c, e⟩ | ⟨c, c2, e⟩ | ⟨c, c2, s1, e, e1, e2⟩
  · have e1 : dm2 s = some (1, nw s 80 0) := by
      unfold dm2
      rw [e]
      rfl
    obtain ⟨l1, v1⟩ := fin _ _ e1
    rcases d174 v1.2.1 hv.2.1.2 v1.1 hv.1.2.1 (T122 _ l1) with ⟨d, f⟩ | ⟨d, -⟩ | ⟨d, -⟩
    · have q := dt174 (sio := true) (d := 2000) (by decide) l1 f
      exact ⟨_, _, _, _, ns, e1, l1, f, by rw [sI_wI, if_pos ⟨rfl, rfl⟩], fun z => absurd z (by decide), SS.on q.1 l1 (hv.thr hl (by decide)) (v1.t0 1).2 (v1.t0 1).1, (gw_nw s).tr (v1.t0 1).2⟩
    · exact absurd d c
    · exact absurd d c
  · have e1 : dm2 s = some (2, nw s 81 0) := by
      unfold dm2
      rw [e]
      rfl
    obtain ⟨l1, v1⟩ := fin _ _ e1
    rcases d174 v1.2.1 hv.2.1.2 v1.1 hv.1.2.1 (T122 _ l1) with ⟨d, f⟩ | ⟨d, -, f⟩ | ⟨d, d2, -⟩
    · exact absurd c d
    · have q := dt174 (sio := true) (d := 2000) (by decide) l1 f
      exact ⟨_, _, _, _, ns, e1, l1, f, by rw [sI_wI, if_pos ⟨rfl, rfl⟩], fun z => absurd z (by decide), SS.on q.1 l1 (hv.thr hl (by decide)) (v1.t0 2).2 (v1.t0 2).1, (gw_nw s).tr (v1.t0 2).2⟩
    · omega
  · have e3 : dm2 s = some (0, wJ s1 148 (jN 0) (Int32.ofNat ns.length).toInt64) := by
      unfold dm2
      rw [e]
      simp only [bv_some]
      rw [zN_l, vI_int, if_pos a01, nx_eq]
    obtain ⟨l1, v1⟩ := fin _ _ e3
    have w1 : CV (wJ s1 148 (jN 0) (Int32.ofNat ns.length).toInt64) t (ns ++ [t]) := (hv.nm hl e2 e1 (ok_ap hv.2.1.2 c2 c.1 hv.1.2.2)).j
    rcases d174 v1.2.1 hv.2.1.2 v1.1 hv.1.2.1 (T122 _ l1) with ⟨d, -⟩ | ⟨d, d2, -⟩ | ⟨d, d2, s2, f, f1, f2, f3⟩
    · exact absurd c d
    · omega
    · have q := dt174 (sio := true) (d := 2000) (by decide) l1 f
      have g : ch mA (wJ s1 148 (jN 0) (Int32.ofNat ns.length).toInt64) s2 := f3.mono fun a k z => by unfold mA; omega
      refine ⟨_, _, _, s2, ns ++ [t], e3, l1, f, f2, fun _ => ?_, SS.on q.1 l1 w1 g ⟨v1.1.of f3 (by omega) (fun j => by omega), f1, v1.2.2.1.of f3 (fun a k z => by omega), v1.2.2.2.1.of f3 (fun a k z => by omega), v1.2.2.2.2.1, v1.2.2.2.2.2.len (by rw [List.length_append]; omega)⟩, ?_⟩
      · rw [jj f3 (by omega), sJ_wJ, if_pos ⟨rfl, rfl⟩]
      · exact ((gw_ch e2).j (k := jN 0) (v := (Int32.ofNat ns.length).toInt64)).tr f3
set_option maxRecDepth 100000 in
theorem ok_set {i : Nat} (h : nsOk ns) (ht : nmP t) (ho : okT t) : nsOk (ns.set i t) := by
  refine ⟨by rw [List.length_set]; exact h.1, fun n hn => ?_⟩
  rcases List.mem_or_eq_of_mem_set hn with z | z
  · exact h.2 n z
  · rw [z]
    exact ⟨ht.1, ht.2.1, ho⟩
set_option maxRecDepth 100000 in
theorem q_rename (h : SS tt xs s t ns fs lt) (x : Int32) : ∃ k s1 s2 ns1, dm3 x s = some (k, s1) ∧ Ly tt (cCc xs) s1 ∧ dm180 x s1 = some s2 ∧ sI s2 121 0 = k ∧ SS tt xs s2 t ns1 fs lt ∧ gw s s2 := by
  obtain ⟨hl, hv, hr⟩ := h
  have fin : ∀ k s1, dm3 x s = some (k, s1) → Ly tt (cCc xs) s1 ∧ RV s1 t ns fs lt := fun k s1 e => by
    have q := dt3 (sio := true) (d := 2000) (by decide) hl e
    exact ⟨q.1, hr.ex hl q.2.1⟩
  have T122 : ∀ s1, Ly tt (cCc xs) s1 → (sT s1 122).2 = 256 := fun s1 l1 => by rw [l1.T (a := 122) (p := (100, 256)) 44 rfl rfl]
  rcases d51 hv.2.1.1 (RC.ly hl) hv.2.1.2 (FB.ly hl) (TF.ly hl) hv.1.1 hv.1.2.1 hv.1.2.2 x with ⟨c, e⟩ | ⟨c, c2, e⟩ | ⟨c, c2, s1, e, e1, e2⟩
  · have e1 : dm3 x s = some (1, nw s 82 0) := by
      unfold dm3
      rw [e]
      rfl
    obtain ⟨l1, v1⟩ := fin _ _ e1
    rcases d180 v1.2.1 hv.2.1.2 v1.1 hv.1.2.1 (T122 _ l1) x with ⟨d, f⟩ | ⟨d, -⟩ | ⟨d, -⟩
    · have q := dt180 (sio := true) (d := 2000) (by decide) l1 f
      exact ⟨_, _, _, ns, e1, l1, f, by rw [sI_wI, if_pos ⟨rfl, rfl⟩], SS.on q.1 l1 (hv.thr hl (by decide)) (v1.t0 1).2 (v1.t0 1).1, (gw_nw s).tr (v1.t0 1).2⟩
    · exact absurd d c
    · exact absurd d c
  · have e1 : dm3 x s = some (2, nw s 80 0) := by
      unfold dm3
      rw [e]
      rfl
    obtain ⟨l1, v1⟩ := fin _ _ e1
    rcases d180 v1.2.1 hv.2.1.2 v1.1 hv.1.2.1 (T122 _ l1) x with ⟨d, f⟩ | ⟨d, -, f⟩ | ⟨d, d2, -⟩
    · exact absurd c d
    · have q := dt180 (sio := true) (d := 2000) (by decide) l1 f
      exact ⟨_, _, _, ns, e1, l1, f, by rw [sI_wI, if_pos ⟨rfl, rfl⟩], SS.on q.1 l1 (hv.thr hl (by decide)) (v1.t0 2).2 (v1.t0 2).1, (gw_nw s).tr (v1.t0 2).2⟩
    · exact absurd d2 c2
  · have e3 : dm3 x s = some (0, s1) := by
      unfold dm3
      rw [e]
      rfl
    obtain ⟨l1, v1⟩ := fin _ _ e3
    have w1 : CV s1 t (ns.set x.toInt.toNat t) := hv.nm hl e2 e1 (ok_set hv.2.1.2 c2.1 hv.1.2.2)
    rcases d180 v1.2.1 hv.2.1.2 v1.1 hv.1.2.1 (T122 _ l1) x with ⟨d, -⟩ | ⟨d, d2, -⟩ | ⟨d, d2, s2, f, f1, f2, f3⟩
    · exact absurd c d
    · exact absurd c2 d2
    · have q := dt180 (sio := true) (d := 2000) (by decide) l1 f
      have g : ch mA s1 s2 := f3.mono fun a k z => by unfold mA; omega
      exact ⟨_, _, s2, _, e3, l1, f, f2, SS.on q.1 l1 w1 g ⟨v1.1.of f3 (by omega) (fun j => by omega), f1, v1.2.2.1.of f3 (fun a k z => by omega), v1.2.2.2.1.of f3 (fun a k z => by omega), v1.2.2.2.2.1, v1.2.2.2.2.2.len (by rw [List.length_set]; omega)⟩, (gw_ch e2).tr f3⟩
set_option maxRecDepth 100000 in
theorem q_drop (h : SS tt xs s t ns fs lt) (x : Int32) : ∃ k s1 s2 ns1 fs1, dm4 x s = some (k, s1) ∧ Ly tt (cCc xs) s1 ∧ dm182 x s1 = some s2 ∧ sI s2 121 0 = k ∧ SS tt xs s2 t ns1 fs1 lt ∧ gw s s2 := by
  obtain ⟨hl, hv, hr⟩ := h
  have fin : ∀ k s1, dm4 x s = some (k, s1) → Ly tt (cCc xs) s1 ∧ RV s1 t ns fs lt := fun k s1 e => by
    have q := dt4 (sio := true) (d := 2000) (by decide) hl e
    exact ⟨q.1, hr.ex hl q.2.1⟩
  rcases y52 hv hl x with ⟨c, e⟩ | ⟨c, s1, e, e1, e2⟩
  · have e1 : dm4 x s = some (1, nw s 82 0) := by
      unfold dm4
      rw [e]
      rfl
    obtain ⟨l1, v1⟩ := fin _ _ e1
    rcases r182 v1 hv.2.1.2 x with ⟨d, s2, f, f1, f2, f3⟩ | ⟨d, -⟩
    · have q := dt182 (sio := true) (d := 2000) (by decide) l1 f
      exact ⟨_, _, s2, ns, fs, e1, l1, f, f1, SS.on q.1 l1 (hv.thr hl (by decide)) f3 f2, (gw_nw s).tr f3⟩
    · exact absurd d c
  · have e3 : dm4 x s = some (0, s1) := by
      unfold dm4
      rw [e]
      rfl
    obtain ⟨l1, v1⟩ := fin _ _ e3
    rcases r182 v1 hv.2.1.2 x with ⟨d, -⟩ | ⟨d, s2, fs1, f, f1, f2, f3⟩
    · exact absurd c d
    · have q := dt182 (sio := true) (d := 2000) (by decide) l1 f
      exact ⟨_, _, s2, _, fs1, e3, l1, f, f1, SS.on q.1 l1 e1 f3 f2, e2.tr f3⟩
set_option maxRecDepth 100000 in
theorem q_name (h : SS tt xs s t ns fs lt) (x y : Int32) : ∃ k s1 b s2, dm15 x y s = some (k, s1) ∧ Ly tt (cCc xs) s1 ∧ dm250 x y s1 = some (b, s2) ∧ sI s2 121 0 = k ∧ (k = 0 → sJ s2 148 0 = b.toInt64) ∧ SS tt xs s2 t ns fs lt ∧ gw s s2 := by
  obtain ⟨hl, hv, hr⟩ := h
  have fin : ∀ k s1, dm15 x y s = some (k, s1) → Ly tt (cCc xs) s1 ∧ RV s1 t ns fs lt := fun k s1 e => by
    have q := dt15 (sio := true) (d := 2000) (by decide) hl e
    exact ⟨q.1, hr.ex hl q.2.1⟩
  rcases d169 hv.2.1.1.1 (RC.ly hl) hv.2.1.2 x y with ⟨c, e⟩ | ⟨c, e⟩
  · have e1 : dm15 x y s = some (1, nw s 82 0) := by
      unfold dm15
      rw [e]
      rfl
    obtain ⟨l1, v1⟩ := fin _ _ e1
    rcases d250 v1.2.1 hv.2.1.2 x y with ⟨d, f⟩ | ⟨d, -⟩
    · have q := dt250 (sio := true) (d := 2000) (by decide) l1 f
      exact ⟨_, _, _, _, e1, l1, f, by rw [sI_wI, if_pos ⟨rfl, rfl⟩], fun z => absurd z (by decide), SS.on q.1 l1 (hv.thr hl (by decide)) (v1.t0 1).2 (v1.t0 1).1, (gw_nw s).tr (v1.t0 1).2⟩
    · exact absurd d c
  · have e3 : dm15 x y s = some (0, wJ s 148 (jN 0) (if y.toInt < 0 then -1 else (ns.getD x.toInt.toNat []).getD y.toInt.toNat (-1) : Int32).toInt64) := by
      unfold dm15
      rw [e]
      simp only [bv_some]
      rw [zN_l, vI_int, if_pos a01, nx_eq]
    obtain ⟨l1, v1⟩ := fin _ _ e3
    rcases d250 v1.2.1 hv.2.1.2 x y with ⟨d, -⟩ | ⟨d, f⟩
    · exact absurd c d
    · have q := dt250 (sio := true) (d := 2000) (by decide) l1 f
      exact ⟨_, _, _, _, e3, l1, f, by rw [sI_wI, if_pos ⟨rfl, rfl⟩], fun _ => by rw [sJ_wI, sJ_wJ, if_pos ⟨rfl, rfl⟩], SS.on q.1 l1 hv.j (v1.t0 0).2 (v1.t0 0).1, ((gw_ch (ch.refl (fun _ _ => False) s)).j (k := jN 0)).tr (v1.t0 0).2⟩
end SSs
end
section
/-! the law's loop -/
section LP
variable {xs : List Int32}
set_option maxRecDepth 100000 in
theorem lg_r (x : Int64) : lg_cmp x x = 0 := by
  unfold lg_cmp
  simp
set_option maxRecDepth 100000 in
theorem ly_T {s : aS} (h : Ly xs.length (cCc xs) s) : (sT s 0).2 = xs.length := by
  rw [h.lowT (show 0 < zK by decide)]
  rfl
set_option maxRecDepth 100000 in
theorem ly_I {tt k : Nat} {s s1 : aS} (h : Ly tt (cCc xs) s) (g : Ly tt (cCc xs) s1) : sI s1 0 k = sI s 0 k := (g.2.2.2.2.2.2.2.2 0 k (by decide)).trans (h.2.2.2.2.2.2.2.2 0 k (by decide)).symm
set_option maxRecDepth 100000 in
theorem lp (hN : xs.length ≤ 3072) : ∀ (m q n : Nat) (s : aS) (t : List Int32) (ns : List (List Int32)) (fs : Nat → Option Fm) (lt : Nat → Nat → List Int32), SS xs.length xs s t ns fs lt → q + m = 512 → m < n → ∃ s', dm0_13 n (Int32.ofNat (6 * q)) s = some (1, s') ∧ sL s' ≤ sL s + 8 * m ∧ aSz s' ≤ aSz s + 3000 * m := by
  have e6 : (6 : Int32).toInt = 6 := rfl
  have eL : (Int32.ofNat xs.length - 6).toInt = (xs.length : Int) - 6 := by
    rw [iSub (by rw [e6, iOfNat (by omega)]; omega) (by rw [e6, iOfNat (by omega)]; omega), e6, iOfNat (by omega)]
  intro m
  induction m with
  | zero =>
    intro q n s t ns fs lt h h1 h2
    obtain ⟨n, rfl⟩ : ∃ k, n = k + 1 := ⟨n - 1, by omega⟩
    rw [dm0_13, ly_T h.1, if_pos (by rw [iLt, eL, iOfNat (by omega)]; omega)]
    exact ⟨s, rfl, by omega, by omega⟩
  | succ m ih =>
    intro q n s t ns fs lt h h1 h2
    obtain ⟨n, rfl⟩ : ∃ k, n = k + 1 := ⟨n - 1, by omega⟩
    rw [dm0_13, ly_T h.1]
    by_cases c : 6 * q + 6 ≤ xs.length
    · rw [if_neg (by rw [iLt, eL, iOfNat (by omega)]; omega)]
      have nxt : ∀ s2 t2 ns2 fs2 lt2, SS xs.length xs s2 t2 ns2 fs2 lt2 → gw s s2 → ∃ s', dm0_446 (dm0_13 n) (Int32.ofNat (6 * q)) s2 = some (1, s') ∧ sL s' ≤ sL s + 8 * (m + 1) ∧ aSz s' ≤ aSz s + 3000 * (m + 1) := by
        intro s2 t2 ns2 fs2 lt2 k2 g2
        unfold dm0_446
        have e : Int32.ofNat (6 * q) + 6 = Int32.ofNat (6 * (q + 1)) := iSum (i := 6 * q) (j := 6) (by omega) (by omega)
        rw [e]
        obtain ⟨s', f1, f2, f3⟩ := ih (q + 1) n s2 t2 ns2 fs2 lt2 k2 (by omega) (by omega)
        exact ⟨s', f1, by have := g2.1; omega, by have := g2.2; omega⟩
      have B : ∀ j, j ≤ 5 → aB (Int32.ofNat (6 * q) + Int32.ofNat j) xs.length := fun j hj => by
        rw [iSum (by omega) (by omega)]
        exact aB_of (by omega) (by omega)
      have b0 : aB (Int32.ofNat (6 * q)) xs.length := aB_of (by omega) (by omega)
      have b1 : aB (Int32.ofNat (6 * q) + 1) xs.length := B 1 (by omega)
      have b2 : aB (Int32.ofNat (6 * q) + 2) xs.length := B 2 (by omega)
      have b3 : aB (Int32.ofNat (6 * q) + 3) xs.length := B 3 (by omega)
      have b4 : aB (Int32.ofNat (6 * q) + 4) xs.length := B 4 (by omega)
      have b5 : aB (Int32.ofNat (6 * q) + 5) xs.length := B 5 (by omega)
      rw [if_pos b0]
      by_cases c0 : ((sI s 0 (jN (Int32.ofNat (6 * q)))) &&& 15) = 0
      · rw [if_pos c0]
        rw [if_pos b1]
        obtain ⟨k, s1, b, s2, t1, e1, l1, e2, e3, e4, e5, e6⟩ := q_type h (sI s 0 (jN (Int32.ofNat (6 * q) + 1)))
        rw [e1]
        simp only [bv_some]
        rw [ly_T l1, if_pos b1, ly_I h.1 l1, e2]
        simp only [bv_some]
        exact nxt s2 t1 ns fs lt e5 e6
      · rw [if_neg c0]
        by_cases c1 : ((sI s 0 (jN (Int32.ofNat (6 * q)))) &&& 15) = 1
        · rw [if_pos c1]
          obtain ⟨s1, s2, e1, e2, e5, e6⟩ := q_erase h
          rw [e1]
          simp only [bu_some]
          rw [e2]
          simp only [bu_some]
          exact nxt s2 [] ns fs lt e5 e6
        · rw [if_neg c1]
          by_cases c2 : ((sI s 0 (jN (Int32.ofNat (6 * q)))) &&& 15) = 2
          · rw [if_pos c2]
            obtain ⟨k, s1, b, s2, ns1, e1, l1, e2, e3, e4, e5, e6⟩ := q_sheet h
            rw [e1]
            simp only [bv_some]
            rw [e2]
            simp only [bv_some]
            exact nxt s2 t ns1 fs lt e5 e6
          · rw [if_neg c2]
            by_cases c3 : ((sI s 0 (jN (Int32.ofNat (6 * q)))) &&& 15) = 3
            · rw [if_pos c3]
              rw [if_pos b1]
              obtain ⟨k, s1, s2, ns1, e1, l1, e2, e3, e5, e6⟩ := q_rename h (sI s 0 (jN (Int32.ofNat (6 * q) + 1)))
              rw [e1]
              simp only [bv_some]
              rw [ly_T l1, if_pos b1, ly_I h.1 l1, e2]
              simp only [bu_some]
              exact nxt s2 t ns1 fs lt e5 e6
            · rw [if_neg c3]
              by_cases c4 : ((sI s 0 (jN (Int32.ofNat (6 * q)))) &&& 15) = 4
              · rw [if_pos c4]
                rw [if_pos b1]
                obtain ⟨k, s1, s2, ns1, fs1, e1, l1, e2, e3, e5, e6⟩ := q_drop h (sI s 0 (jN (Int32.ofNat (6 * q) + 1)))
                rw [e1]
                simp only [bv_some]
                rw [ly_T l1, if_pos b1, ly_I h.1 l1, e2]
                simp only [bu_some]
                unfold dm171
                simp only [bu_some]
                rw [e3, if_pos rfl]
                exact nxt s2 t ns1 fs1 lt e5 e6
              · rw [if_neg c4]
                by_cases c5 : ((sI s 0 (jN (Int32.ofNat (6 * q)))) &&& 15) = 5
                · rw [if_pos c5]
                  rw [if_pos b1, if_pos b2]
                  obtain ⟨k, s1, e1, h1, g1⟩ := kc5 h (sI s 0 (jN (Int32.ofNat (6 * q) + 1))) (sI s 0 (jN (Int32.ofNat (6 * q) + 2)))
                  rw [e1]
                  simp only [bv_some]
                  rw [ly_T h1.1, if_pos b1, if_pos b2]
                  obtain ⟨v, s2, fs1, lt1, e2, h2, g2⟩ := ms184 h1 (sI s1 0 (jN (Int32.ofNat (6 * q) + 1))) (sI s1 0 (jN (Int32.ofNat (6 * q) + 2)))
                  rw [e2]
                  simp only [bv_some]
                  exact nxt s2 t ns fs1 lt1 h2 (g1.tr g2)
                · rw [if_neg c5]
                  by_cases c6 : ((sI s 0 (jN (Int32.ofNat (6 * q)))) &&& 15) = 6
                  · rw [if_pos c6]
                    rw [if_pos b1, if_pos b2, if_pos b3, if_pos b4, if_pos b5]
                    obtain ⟨k, s1, e1, h1, g1⟩ := kc6 h (sI s 0 (jN (Int32.ofNat (6 * q) + 1))) (sI s 0 (jN (Int32.ofNat (6 * q) + 2))) (sI s 0 (jN (Int32.ofNat (6 * q) + 3))) (sI s 0 (jN (Int32.ofNat (6 * q) + 4))) (sI s 0 (jN (Int32.ofNat (6 * q) + 5)))
                    rw [e1]
                    simp only [bv_some]
                    rw [ly_T h1.1, if_pos b1, if_pos b2, if_pos b3, if_pos b4, if_pos b5]
                    obtain ⟨s2, fs1, lt1, e2, h2, g2⟩ := ms224 h1 (sI s1 0 (jN (Int32.ofNat (6 * q) + 1))) (sI s1 0 (jN (Int32.ofNat (6 * q) + 2))) (sI s1 0 (jN (Int32.ofNat (6 * q) + 3))) (sI s1 0 (jN (Int32.ofNat (6 * q) + 4))) (sI s1 0 (jN (Int32.ofNat (6 * q) + 5)))
                    rw [e2]
                    simp only [bu_some]
                    exact nxt s2 t ns fs1 lt1 h2 (g1.tr g2)
                  · rw [if_neg c6]
                    by_cases c7 : ((sI s 0 (jN (Int32.ofNat (6 * q)))) &&& 15) = 7
                    · rw [if_pos c7]
                      rw [if_pos b1, if_pos b2]
                      have f204 : ∀ y1 y2, ∃ s', dm0_193 (dm0_13 n) (Int32.ofNat (6 * q)) y1 y2 s = some (1, s') ∧ sL s' ≤ sL s + 8 * (m + 1) ∧ aSz s' ≤ aSz s + 3000 * (m + 1) := by
                        intro y1 y2
                        unfold dm0_193
                        rw [ly_T h.1, if_pos b3, if_pos b4]
                        obtain ⟨k, s1, e1, h1, g1⟩ := kc7 h y1 y2 (sI s 0 (jN (Int32.ofNat (6 * q) + 3))) (sI s 0 (jN (Int32.ofNat (6 * q) + 4)))
                        rw [e1]
                        simp only [bv_some]
                        rw [ly_T h1.1, if_pos b1, if_pos b2]
                        have f232 : ∀ z1 z2, ∃ s', dm0_221 (dm0_13 n) (Int32.ofNat (6 * q)) z1 z2 s1 = some (1, s') ∧ sL s' ≤ sL s + 8 * (m + 1) ∧ aSz s' ≤ aSz s + 3000 * (m + 1) := by
                          intro z1 z2
                          unfold dm0_221
                          rw [ly_T h1.1, if_pos b3, if_pos b4]
                          obtain ⟨v, s2, fs1, e2, h2, g2⟩ := ms228 h1 z1 z2 (sI s1 0 (jN (Int32.ofNat (6 * q) + 3))) (sI s1 0 (jN (Int32.ofNat (6 * q) + 4)))
                          rw [e2]
                          simp only [bv_some]
                          exact nxt s2 t ns fs1 lt h2 (g1.tr g2)
                        split
                        · exact f232 _ _
                        · exact f232 _ _
                      split
                      · exact f204 _ _
                      · exact f204 _ _
                    · rw [if_neg c7]
                      by_cases c8 : ((sI s 0 (jN (Int32.ofNat (6 * q)))) &&& 15) = 8
                      · rw [if_pos c8]
                        rw [if_pos b1]
                        obtain ⟨k, s1, e1, h1, g1⟩ := kc8 h (sI s 0 (jN (Int32.ofNat (6 * q) + 1)))
                        rw [e1]
                        simp only [bv_some]
                        rw [ly_T h1.1, if_pos b1]
                        obtain ⟨s2, fs1, e2, h2, g2⟩ := ms231 h1 (sI s1 0 (jN (Int32.ofNat (6 * q) + 1)))
                        rw [e2]
                        simp only [bu_some]
                        exact nxt s2 t ns fs1 lt h2 (g1.tr g2)
                      · rw [if_neg c8]
                        by_cases c9 : ((sI s 0 (jN (Int32.ofNat (6 * q)))) &&& 15) = 9
                        · rw [if_pos c9]
                          rw [if_pos b1, if_pos b2]
                          obtain ⟨k, s1, e1, h1, g1⟩ := kc9 h (sI s 0 (jN (Int32.ofNat (6 * q) + 1))) (sI s 0 (jN (Int32.ofNat (6 * q) + 2)))
                          rw [e1]
                          simp only [bv_some]
                          rw [ly_T h1.1, if_pos b1, if_pos b2]
                          obtain ⟨v, s2, e2, h2, g2⟩ := ms232 h1 (sI s1 0 (jN (Int32.ofNat (6 * q) + 1))) (sI s1 0 (jN (Int32.ofNat (6 * q) + 2)))
                          rw [e2]
                          simp only [bv_some]
                          exact nxt s2 t ns fs lt h2 (g1.tr g2)
                        · rw [if_neg c9]
                          by_cases c10 : ((sI s 0 (jN (Int32.ofNat (6 * q)))) &&& 15) = 10
                          · rw [if_pos c10]
                            rw [if_pos b1]
                            obtain ⟨k, s1, e1, h1, g1⟩ := kc10 h (sI s 0 (jN (Int32.ofNat (6 * q) + 1)))
                            rw [e1]
                            simp only [bv_some]
                            rw [ly_T h1.1, if_pos b1]
                            obtain ⟨v, s2, e2, h2, g2⟩ := ms243 h1 (sI s1 0 (jN (Int32.ofNat (6 * q) + 1)))
                            rw [e2]
                            simp only [bv_some]
                            exact nxt s2 t ns fs lt h2 (g1.tr g2)
                          · rw [if_neg c10]
                            by_cases c11 : ((sI s 0 (jN (Int32.ofNat (6 * q)))) &&& 15) = 11
                            · rw [if_pos c11]
                              rw [if_pos b1, if_pos b2, if_pos b3]
                              obtain ⟨k, s1, e1, h1, g1⟩ := kc11 h (sI s 0 (jN (Int32.ofNat (6 * q) + 1))) (sI s 0 (jN (Int32.ofNat (6 * q) + 2))) (sI s 0 (jN (Int32.ofNat (6 * q) + 3)))
                              rw [e1]
                              simp only [bv_some]
                              rw [ly_T h1.1, if_pos b1, if_pos b2, if_pos b3]
                              obtain ⟨v, s2, e2, h2, g2⟩ := ms244 h1 (sI s1 0 (jN (Int32.ofNat (6 * q) + 1))) (sI s1 0 (jN (Int32.ofNat (6 * q) + 2))) (sI s1 0 (jN (Int32.ofNat (6 * q) + 3)))
                              rw [e2]
                              simp only [bv_some]
                              exact nxt s2 t ns fs lt h2 (g1.tr g2)
                            · rw [if_neg c11]
                              by_cases c12 : ((sI s 0 (jN (Int32.ofNat (6 * q)))) &&& 15) = 12
                              · rw [if_pos c12]
                                rw [if_pos b1, if_pos b2, if_pos b3]
                                obtain ⟨k, s1, e1, h1, g1⟩ := kc12 h (sI s 0 (jN (Int32.ofNat (6 * q) + 1))) (sI s 0 (jN (Int32.ofNat (6 * q) + 2))) (sI s 0 (jN (Int32.ofNat (6 * q) + 3)))
                                rw [e1]
                                simp only [bv_some]
                                rw [ly_T h1.1, if_pos b1, if_pos b2, if_pos b3]
                                obtain ⟨v, s2, e2, h2, g2⟩ := ms246 h1 (sI s1 0 (jN (Int32.ofNat (6 * q) + 1))) (sI s1 0 (jN (Int32.ofNat (6 * q) + 2))) (sI s1 0 (jN (Int32.ofNat (6 * q) + 3)))
                                rw [e2]
                                simp only [bv_some]
                                exact nxt s2 t ns fs lt h2 (g1.tr g2)
                              · rw [if_neg c12]
                                by_cases c13 : ((sI s 0 (jN (Int32.ofNat (6 * q)))) &&& 15) = 13
                                · rw [if_pos c13]
                                  rw [if_pos b1, if_pos b2]
                                  obtain ⟨k, s1, e1, h1, g1⟩ := kc13 h (sI s 0 (jN (Int32.ofNat (6 * q) + 1))) (sI s 0 (jN (Int32.ofNat (6 * q) + 2)))
                                  rw [e1]
                                  simp only [bv_some]
                                  rw [ly_T h1.1, if_pos b1, if_pos b2]
                                  obtain ⟨v, s2, e2, h2, g2⟩ := ms248 h1 (sI s1 0 (jN (Int32.ofNat (6 * q) + 1))) (sI s1 0 (jN (Int32.ofNat (6 * q) + 2)))
                                  rw [e2]
                                  simp only [bv_some]
                                  exact nxt s2 t ns fs lt h2 (g1.tr g2)
                                · rw [if_neg c13]
                                  by_cases c14 : ((sI s 0 (jN (Int32.ofNat (6 * q)))) &&& 15) = 14
                                  · rw [if_pos c14]
                                    rw [if_pos b1]
                                    obtain ⟨k, s1, e1, h1, g1⟩ := kc14 h (sI s 0 (jN (Int32.ofNat (6 * q) + 1)))
                                    rw [e1]
                                    simp only [bv_some]
                                    rw [ly_T h1.1, if_pos b1]
                                    obtain ⟨v, s2, e2, h2, g2⟩ := ms249 h1 (sI s1 0 (jN (Int32.ofNat (6 * q) + 1)))
                                    rw [e2]
                                    simp only [bv_some]
                                    exact nxt s2 t ns fs lt h2 (g1.tr g2)
                                  · rw [if_neg c14]
                                    by_cases c15 : ((sI s 0 (jN (Int32.ofNat (6 * q)))) &&& 15) = 15
                                    · rw [if_pos c15]
                                      rw [if_pos b1, if_pos b2]
                                      obtain ⟨k, s1, b, s2, e1, l1, e2, e3, e4, e5, e6⟩ := q_name h (sI s 0 (jN (Int32.ofNat (6 * q) + 1))) (sI s 0 (jN (Int32.ofNat (6 * q) + 2)))
                                      rw [e1]
                                      simp only [bv_some]
                                      rw [ly_T l1, if_pos b1, if_pos b2, ly_I h.1 l1, ly_I h.1 l1, e2]
                                      simp only [bv_some]
                                      exact nxt s2 t ns fs lt e5 e6
                                    · rw [if_neg c15]
                                      exact nxt s t ns fs lt h (gw_ch (ch.refl (fun _ _ => False) s))
    · rw [if_pos (by rw [iLt, eL, iOfNat (by omega)]; omega)]
      exact ⟨s, rfl, by omega, by omega⟩
set_option maxRecDepth 100000 in
/-- a new object -/
theorem SS.st (xs : List Int32) : SS xs.length xs (csE xs) [] [] (fun _ => none) (fun _ _ => []) := by
  have hl := fin_ly xs
  obtain ⟨h1, h2, h3, h4, h5, h6, h7, h8⟩ := caE xs
  have hL : sL (csE xs) = 149 := h1.trans (by decide +kernel)
  have z0 : (0 : Int32) = Int32.ofNat 0 := rfl
  have kI : ∀ a k, a ≠ 0 → sI (csE []) a k = 0 → sI (csE xs) a k = Int32.ofNat 0 := fun a k ha e => (h5 a k ha).trans e
  have r0 : ∀ f : Fin 8, sR (csE []) 100 f.val = .null := by decide +kernel
  have m0 : ∀ f : Fin 8, sI (csE []) 125 f.val = 0 := by decide +kernel
  have k102 : aK (csE xs) 102 3 := hl.Kd (n := 3) 24 rfl rfl (by decide)
  have eN : ∀ f, f < 8 → sR (csE xs) 100 f = .null := fun f hf => (h4 100 f (by decide)).trans (r0 ⟨f, hf⟩)
  have ln : ∀ b, sI (csE xs) b 1 = Int32.ofNat 0 → LT (csE xs) b [] := fun b e => ⟨e, fun j hj => absurd hj (Nat.not_lt_zero j)⟩
  have ok0 : okT [] := fun y hy => (by cases hy)
  refine ⟨hl, ⟨⟨ln 79 (kI 79 1 (by decide) (by decide +kernel)), by decide, ok0⟩, ⟨⟨⟨kI 81 2 (by decide) (by decide +kernel), fun i hi => absurd hi (Nat.not_lt_zero i)⟩, fun i hi => absurd hi (Nat.not_lt_zero i)⟩, by decide, fun n hn => (by cases hn)⟩, ⟨fun f hf => Or.inl (eN f hf), fun f g b hf hg q1 q2 => ?_, 102, (h4 78 6 (by decide)).trans (by decide +kernel), k102, fun f hf q => ?_⟩, fun b hb => ?_, ⟨[], ln 107 (kI 107 1 (by decide) (by decide +kernel)), by decide, ok0⟩, ⟨0, by decide, kI 110 2 (by decide) (by decide +kernel)⟩, 0, by decide, kI 113 3 (by decide) (by decide +kernel)⟩, ⟨kI 121 1 (by decide) (by decide +kernel), fun j hj => absurd hj (Nat.not_lt_zero j)⟩, ⟨kI 121 3 (by decide) (by decide +kernel), fun i hi => absurd hi (Nat.not_lt_zero i)⟩, fun f hf => ⟨fun _ => (h5 125 f (by decide)).trans (m0 ⟨f, hf⟩), fun h9 L q => (by cases q)⟩, fun f hf h9 L q => (by cases q), fun f hf h9 L q => (by cases q), fun f h9 L q => (by cases q)⟩
  · rw [eN f hf] at q1
    cases q1
  · rw [eN f hf] at q
    cases q
  · have hb3 := tr_at hl hb
    have hbl := (hl.tr hb).2.2.2.1
    rw [hL] at hbl
    have e : b = 102 := by omega
    subst e
    exact ⟨0, [], by decide, kI 102 2 (by decide) (by decide +kernel), ⟨ln 104 (kI 104 1 (by decide) (by decide +kernel)), by decide, ok0⟩, fun k hk => absurd hk (Nat.not_lt_zero k)⟩
set_option maxRecDepth 100000 in
theorem zPure_ok : zPure 3072 := zPure_of fun xs hx => by
  obtain ⟨s', e1, e2, e3⟩ := lp hx 512 0 5000 (csE xs) [] [] (fun _ => none) (fun _ _ => []) (SS.st xs) (by omega) (by omega)
  have hL : sL (csE xs) = 149 := (caE xs).1.trans (by decide +kernel)
  have hz := aSz_csE xs
  have e1 : dm0 0 (csE xs) = some (1, s') := e1
  exact ⟨s', e1, by omega, by omega⟩
end LP
end
