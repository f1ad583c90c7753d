/-! trees of FormulaTrees stay trees: lost nodes, moves, shifts -/
section KK
variable {s0 s : aS} {b i z9 : Nat} {t : List Int32} {ns : List (List Int32)}
def AB (b a : Nat) : Prop := a = b ∨ a = b + 1
set_option maxRecDepth 100000 in
theorem k58 {j N : Nat} (h : KW s0 s b i z9) (hb : b = 102 ∨ 149 ≤ b) (hN : sI s b 2 = Int32.ofNat N) (h8 : N ≤ 128) (hj : j < N) : ∃ s', dm58 b (Int32.ofNat j) s = some s' ∧ KW s0 s' b i z9 ∧ ch (fun a _ => a = b ∨ a = b + 1) s s' := by
  obtain ⟨s', a1, a2, a3⟩ := d58 hN h8 hj
  refine ⟨s', a1, ?_, a3.mono fun a k z => Or.inr z.1⟩
  obtain ⟨g1, g2, ⟨N', u, b1, b2, b3, b4, b5⟩, ⟨hd, c1, c2, c3⟩, ⟨m0, d1, d2⟩, o, e1, e2⟩ := h
  refine ⟨g1.trans (a3.mono fun a k z => by unfold AC; omega), (a3.i (by omega)).trans g2, ⟨N', u, b1, (a3.i (by omega)).trans b2, b3.of a3 (by omega) (fun k => by omega), b4, fun q hq => ?_⟩, ⟨hd, c1.of a3 (by omega) (fun k => by omega), c2, c3⟩, ⟨m0, d1, (a3.i (by omega)).trans d2⟩, o, e1, (a3.i (by omega)).trans e2⟩
  by_cases c : q = j
  · subst c
    exact ⟨[], ⟨0, a2 9 (by decide), a2 10 (by decide), Nat.zero_le _, fun j hj => absurd hj (Nat.not_lt_zero j)⟩, fun y hy => (by cases hy)⟩
  · obtain ⟨l, ⟨st, r1, r2, r3, r4⟩, r5⟩ := b5 q hq
    exact ⟨l, ⟨st, (a3.i (by omega)).trans r1, (a3.i (by omega)).trans r2, r3, r4⟩, r5⟩
set_option maxRecDepth 100000 in
theorem abN {s s' : aS} (c : ch (fun a q => (a = b ∧ q ≠ 2) ∨ a = b + 1) s s') : sI s' b 2 = sI s b 2 := c.i (by omega)
/-- what keeps the count of nodes -/
def KN (s0 s : aS) (b i z9 N : Nat) : Prop := KW s0 s b i z9 ∧ sI s b 2 = Int32.ofNat N
set_option maxRecDepth 100000 in
theorem k60n {N w : Nat} (h : KN s0 s b i z9 N) (hb : b = 102 ∨ 149 ≤ b) (x v : Int32) (hw : w < 9) : ∃ s', dm60 b x (Int32.ofNat w) v s = some s' ∧ KN s0 s' b i z9 N ∧ ch (fun a _ => a = b + 1) s s' := by
  obtain ⟨s', a1, a2, a3⟩ := k60 h.1 hb x v w hw
  have key : ch (fun a _ => a = b + 1) s s' := by
    unfold dm60 at a1
    repeat' split at a1
    all_goals first
      | (have a1 := Option.some.inj a1; subst a1; exact ch.refl _ s)
      | (rw [nx_eq] at a1; have a1 := Option.some.inj a1; subst a1; exact (ch.refl _ s).wI rfl)
      | cases a1
  exact ⟨s', a1, ⟨a2, (key.i (by omega)).trans h.2⟩, key⟩
set_option maxRecDepth 100000 in
theorem k58n {N j : Nat} (h : KN s0 s b i z9 N) (hb : b = 102 ∨ 149 ≤ b) (h8 : N ≤ 128) (hj : j < N) : ∃ s', dm58 b (Int32.ofNat j) s = some s' ∧ KN s0 s' b i z9 N ∧ ch (fun a _ => a = b + 1) s s' := by
  obtain ⟨s', a1, a2, a3⟩ := k58 h.1 hb h.2 h8 hj
  obtain ⟨s2, c1, c2, c3⟩ := d58 h.2 h8 hj
  rw [a1] at c1
  cases c1
  have key : ch (fun a _ => a = b + 1) s s' := c3.mono fun a k z => z.1
  exact ⟨s', a1, ⟨a2, (key.i (by omega)).trans h.2⟩, key⟩
set_option maxRecDepth 100000 in
theorem k56 {N : Nat} (h : KN s0 s b i z9 N) (hb : b = 102 ∨ 149 ≤ b) (h8 : N ≤ 128) (x : Int32) : ∃ s', dm56 b x s = some s' ∧ KN s0 s' b i z9 N ∧ ch (fun a _ => a = b + 1) s s' := by
  have loop : ∀ (m j n : Nat) (s : aS), KN s0 s b i z9 N → j + m = N → m < n → ∃ s', dm56_2 n b x (Int32.ofNat j) s = some s' ∧ KN s0 s' b i z9 N ∧ ch (fun a _ => a = b + 1) s s' := by
    intro m
    induction m with
    | zero =>
      intro j n s h h1 h2
      obtain ⟨n, rfl⟩ : ∃ q, n = q + 1 := ⟨n - 1, by omega⟩
      rw [dm56_2, h.2, if_pos ((nle_iff (by omega) (by omega)).mpr (by omega))]
      exact ⟨s, rfl, h, ch.refl _ s⟩
    | succ m ih =>
      intro j n s h h1 h2
      obtain ⟨n, rfl⟩ : ∃ q, n = q + 1 := ⟨n - 1, by omega⟩
      obtain ⟨v, e⟩ := k57 h.1 (Int32.ofNat j) 2 (by omega)
      have e : dm57 b (Int32.ofNat j) 2 s = some v := e
      rw [dm56_2, h.2, if_neg (fun q => by have := (nle_iff (by omega) (by omega)).mp q; omega), e]
      simp only [bu_some]
      unfold dm56_28
      rw [ofNat_succ (by omega)]
      split
      · obtain ⟨s1, a1, a2, a3⟩ := k58n h hb h8 (show j < N by omega)
        rw [a1]
        simp only [bu_some]
        obtain ⟨s2, c1, c2, c3⟩ := ih (j + 1) n s1 a2 (by omega) (by omega)
        exact ⟨s2, c1, c2, a3.trans c3⟩
      · split
        · exact ih (j + 1) n s h (by omega) (by omega)
        · obtain ⟨s1, a1, a2, a3⟩ := k60n (w := 2) h hb (Int32.ofNat j) (v - 1) (by omega)
          have a1 : dm60 b (Int32.ofNat j) 2 (v - 1) s = some s1 := a1
          rw [a1]
          simp only [bu_some]
          obtain ⟨s2, c1, c2, c3⟩ := ih (j + 1) n s1 a2 (by omega) (by omega)
          exact ⟨s2, c1, c2, a3.trans c3⟩
  exact loop N 0 5000 s h (by omega) (by omega)
set_option maxRecDepth 100000 in
theorem k101n {N : Nat} (h : KN s0 s b i z9 N) (hb : b = 102 ∨ 149 ≤ b) (x : Int32) : ∃ s', dm101 b x s = some s' ∧ KN s0 s' b i z9 N ∧ ch (fun a _ => a = b + 1) s s' := by
  have e102 : ∀ (w : Nat) (s : aS), (w = 3 ∨ w = 4) → KN s0 s b i z9 N → ∃ s', dm102 b x (Int32.ofNat w) s = some s' ∧ KN s0 s' b i z9 N ∧ ch (fun a _ => a = b + 1) s s' := by
    intro w s hw h
    have e2 : Int32.ofNat w + 2 = Int32.ofNat (w + 2) := iSum (i := w) (j := 2) (by omega) (by omega)
    obtain ⟨v1, q1⟩ := k57 h.1 x w (by omega)
    obtain ⟨v2, q2⟩ := k57 h.1 x (w + 2) (by omega)
    unfold dm102
    rw [e2, q1]
    simp only [bu_some]
    rw [q2]
    simp only [bu_some]
    obtain ⟨s1, a1, a2, a3⟩ := k60n (w := w) h hb x v2 (by omega)
    rw [a1]
    simp only [bu_some]
    obtain ⟨s2, b1, b2, b3⟩ := k60n (w := w + 2) a2 hb x v1 (by omega)
    rw [b1]
    simp only [bu_some]
    have f28 : ∀ y, ∃ s', dm102_28 b x y s2 = some s' ∧ KN s0 s' b i z9 N ∧ ch (fun a _ => a = b + 1) s s' := by
      intro y
      obtain ⟨v3, q3⟩ := k57 b2.1 x 7 (by omega)
      have q3 : dm57 b x 7 s2 = some v3 := q3
      unfold dm102_28
      rw [q3]
      simp only [bu_some]
      obtain ⟨s3, c1, c2, c3⟩ := k60n (w := 7) b2 hb x (((v3 &&& ((y * 5) ^^^ (-1))) + ((v3 &&& y) * 4)) + ((v3 &&& (y * 4)) / 4)) (by omega)
      have c1 : dm60 b x 7 (((v3 &&& ((y * 5) ^^^ (-1))) + ((v3 &&& y) * 4)) + ((v3 &&& (y * 4)) / 4)) s2 = some s3 := c1
      rw [c1]
      exact ⟨s3, rfl, c2, (a3.trans b3).trans c3⟩
    split
    · exact f28 1
    · exact f28 2
  have f13 : ∀ s, KN s0 s b i z9 N → ∃ s', dm101_13 b x s = some s' ∧ KN s0 s' b i z9 N ∧ ch (fun a _ => a = b + 1) s s' := by
    intro s h
    obtain ⟨v1, q1⟩ := k57 h.1 x 4 (by omega)
    obtain ⟨v2, q2⟩ := k57 h.1 x 6 (by omega)
    have q1 : dm57 b x 4 s = some v1 := q1
    have q2 : dm57 b x 6 s = some v2 := q2
    unfold dm101_13
    rw [q1]
    simp only [bu_some]
    rw [q2]
    simp only [bu_some]
    split
    · exact ⟨s, rfl, h, ch.refl _ s⟩
    · obtain ⟨s1, a1, a2, a3⟩ := e102 4 s (Or.inr rfl) h
      have a1 : dm102 b x 4 s = some s1 := a1
      rw [a1]
      exact ⟨s1, rfl, a2, a3⟩
  obtain ⟨v1, q1⟩ := k57 h.1 x 3 (by omega)
  obtain ⟨v2, q2⟩ := k57 h.1 x 5 (by omega)
  have q1 : dm57 b x 3 s = some v1 := q1
  have q2 : dm57 b x 5 s = some v2 := q2
  unfold dm101
  rw [q1]
  simp only [bu_some]
  rw [q2]
  simp only [bu_some]
  split
  · exact f13 s h
  · obtain ⟨s1, a1, a2, a3⟩ := e102 3 s (Or.inl rfl) h
    have a1 : dm102 b x 3 s = some s1 := a1
    rw [a1]
    simp only [bu_some]
    obtain ⟨s2, b1, b2, b3⟩ := f13 s1 a2
    exact ⟨s2, b1, b2, a3.trans b3⟩
set_option maxRecDepth 100000 in
theorem k129 (h : KW s0 s b i z9) (x : Int32) : ∃ v, dm129 b x s = some v := by
  obtain ⟨v, q⟩ := k57 h x 0 (by omega)
  have q : dm57 b x 0 s = some v := q
  unfold dm129 dm129_12
  rw [q]
  simp only [bu_some]
  repeat' split
  all_goals exact ⟨_, rfl⟩
set_option maxRecDepth 100000 in
theorem k131 (h : KW s0 s b i z9) (x y : Int32) : ∃ v, dm131 b x y s = some v := by
  obtain ⟨v, q⟩ := k57 h x 0 (by omega)
  have q : dm57 b x 0 s = some v := q
  obtain ⟨v7, q7⟩ := k57 h x 7 (by omega)
  have q7 : dm57 b x 7 s = some v7 := q7
  unfold dm131 dm131_9 dm131_12 dm131_19 dm131_22 dm131_28 dm131_33
  rw [q, q7]
  simp only [bu_some]
  repeat' split
  all_goals exact ⟨_, rfl⟩
set_option maxRecDepth 100000 in
theorem k130 {N j : Nat} (h : KN s0 s b i z9 N) (hb : b = 102 ∨ 149 ≤ b) (h8 : N ≤ 128) (hj : j < N) (x y : Int32) : ∃ s', dm130 b (Int32.ofNat j) x y s = some s' ∧ KN s0 s' b i z9 N ∧ ch (fun a _ => a = b + 1) s s' := by
  have f55 : ∀ (z : Int32) (s : aS), KN s0 s b i z9 N → ∃ s', dm130_55 b (Int32.ofNat j) z s = some s' ∧ KN s0 s' b i z9 N ∧ ch (fun a _ => a = b + 1) s s' := by
    intro z s h
    unfold dm130_55
    split
    · obtain ⟨s1, a1, a2, a3⟩ := k58n h hb h8 hj
      rw [a1]
      exact ⟨s1, rfl, a2, a3⟩
    · obtain ⟨s1, a1, a2, a3⟩ := k101n h hb (Int32.ofNat j)
      rw [a1]
      exact ⟨s1, rfl, a2, a3⟩
  have loop : ∀ (m w n : Nat) (z : Int32) (s : aS), KN s0 s b i z9 N → w + m = 7 → 3 ≤ w → m < n → ∃ s', dm130_4 n b (Int32.ofNat j) x y z (Int32.ofNat w) s = some s' ∧ KN s0 s' b i z9 N ∧ ch (fun a _ => a = b + 1) s s' := by
    intro m
    induction m with
    | zero =>
      intro w n z s h h1 h2 h3
      obtain ⟨n, rfl⟩ : ∃ q, n = q + 1 := ⟨n - 1, by omega⟩
      have : w = 7 := by omega
      subst this
      rw [dm130_4, if_pos (by decide)]
      exact f55 z s h
    | succ m ih =>
      intro w n z s h h1 h2 h3
      obtain ⟨n, rfl⟩ : ∃ q, n = q + 1 := ⟨n - 1, by omega⟩
      have f47 : ∀ (v c : Int32), ∃ s', dm130_47 (dm130_4 n) b (Int32.ofNat j) x y (Int32.ofNat w) v c s = some s' ∧ KN s0 s' b i z9 N ∧ ch (fun a _ => a = b + 1) s s' := by
        intro v c
        obtain ⟨s1, a1, a2, a3⟩ := k60n (w := w) h hb (Int32.ofNat j) v (by omega)
        unfold dm130_47
        rw [a1]
        simp only [bu_some]
        rw [ofNat_succ (by omega)]
        obtain ⟨s2, c1, c2, c3⟩ := ih (w + 1) n c s1 a2 (by omega) (by omega) (by omega)
        exact ⟨s2, c1, c2, a3.trans c3⟩
      have f37 : ∀ (r v : Int32), ∃ s', dm130_37 (dm130_4 n) b (Int32.ofNat j) x y (Int32.ofNat w) r v s = some s' ∧ KN s0 s' b i z9 N ∧ ch (fun a _ => a = b + 1) s s' := by
        intro r v
        unfold dm130_37 dm130_46
        have e132 : ∃ q, dm132 r = some q := by
          unfold dm132
          split <;> exact ⟨_, rfl⟩
        obtain ⟨q, eq⟩ := e132
        rw [eq]
        simp only [bu_some]
        split
        · exact f47 v 0
        · split
          · exact f47 v 0
          · exact f47 v 1
      have f18 : ∀ (r : Int32), ∃ s', dm130_18 (dm130_4 n) b (Int32.ofNat j) x y (Int32.ofNat w) r s = some s' ∧ KN s0 s' b i z9 N ∧ ch (fun a _ => a = b + 1) s s' := by
        intro r
        obtain ⟨v, e1⟩ := k57 h.1 (Int32.ofNat j) w (by omega)
        obtain ⟨v2, e2⟩ := k131 h.1 (Int32.ofNat j) (Int32.ofNat w)
        unfold dm130_18 dm130_35
        rw [e1]
        simp only [bu_some]
        rw [e2]
        simp only [bu_some]
        split
        · split
          · exact f37 _ _
          · exact f37 _ _
        · exact f37 _ _
      rw [dm130_4, if_neg (fun q => by have := (nlt_iff (a := 6) (by omega) (by omega)).mp q; omega)]
      unfold dm130_15
      split
      · exact f55 z s h
      · split
        · exact f18 1
        · split
          · exact f18 1
          · exact f18 0
  exact loop 4 3 5000 1 s h (by omega) (by omega) (by omega)
set_option maxRecDepth 100000 in
theorem k128 {N : Nat} (h : KN s0 s b i z9 N) (hb : b = 102 ∨ 149 ≤ b) (h8 : N ≤ 128) (x y : Int32) : ∃ s', dm128 b x y s = some s' ∧ KN s0 s' b i z9 N ∧ ch (fun a _ => a = b + 1) s s' := by
  have loop : ∀ (m j n : Nat) (s : aS), KN s0 s b i z9 N → j + m = N → m < n → ∃ s', dm128_2 n b x y (Int32.ofNat j) s = some s' ∧ KN s0 s' b i z9 N ∧ ch (fun a _ => a = b + 1) s s' := by
    intro m
    induction m with
    | zero =>
      intro j n s h h1 h2
      obtain ⟨n, rfl⟩ : ∃ q, n = q + 1 := ⟨n - 1, by omega⟩
      rw [dm128_2, h.2, if_pos ((nle_iff (by omega) (by omega)).mpr (by omega))]
      exact ⟨s, rfl, h, ch.refl _ s⟩
    | succ m ih =>
      intro j n s h h1 h2
      obtain ⟨n, rfl⟩ : ∃ q, n = q + 1 := ⟨n - 1, by omega⟩
      obtain ⟨v, e⟩ := k129 h.1 (Int32.ofNat j)
      rw [dm128_2, h.2, if_neg (fun q => by have := (nle_iff (by omega) (by omega)).mp q; omega), e]
      simp only [bu_some]
      unfold dm128_15
      rw [ofNat_succ (by omega)]
      split
      · exact ih (j + 1) n s h (by omega) (by omega)
      · obtain ⟨s1, a1, a2, a3⟩ := k130 h hb h8 (show j < N by omega) x y
        rw [a1]
        simp only [bu_some]
        obtain ⟨s2, c1, c2, c3⟩ := ih (j + 1) n s1 a2 (by omega) (by omega)
        exact ⟨s2, c1, c2, a3.trans c3⟩
  exact loop N 0 5000 s h (by omega) (by omega)
end KK
