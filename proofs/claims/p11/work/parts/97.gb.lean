/-! shifts keep trees trees; a tree becomes another -/
section KK
variable {s0 s : aS} {b i z9 : Nat} {t : List Int32} {ns : List (List Int32)}
/-- how a method on a tree comes to its end -/
def KX (s0 s : aS) (b i z9 N : Nat) (D : Option (Int32 × aS)) : Prop := ∃ v s', D = some (v, s') ∧ KN s0 s' b i z9 N ∧ ch (fun a _ => a = b + 1) s s'
set_option maxRecDepth 100000 in
theorem e132 (x : Int32) : ∃ v, dm132 x = some v := by
  unfold dm132
  split <;> exact ⟨_, rfl⟩
set_option maxRecDepth 100000 in
theorem k136 {N : Nat} (h : KN s0 s b i z9 N) (hb : b = 102 ∨ 149 ≤ b) (x x2 x3 x4 : Int32) : KX s0 s b i z9 N (dm136 b x x2 x3 x4 s) := by
  obtain ⟨r, er⟩ := e132 x2
  have f52 : ∀ (x5 x6 : Int32) (w : Nat) (s : aS), w < 9 → KN s0 s b i z9 N → KX s0 s b i z9 N (dm136_52 x2 x5 x6 b x (Int32.ofNat w) s) := by
    intro x5 x6 w s hw h
    unfold dm136_52
    rw [er]
    simp only [bu_some]
    obtain ⟨s1, a1, a2, a3⟩ := k60n (w := w) h hb x (if r < x6 then r else x6) hw
    rw [a1]
    simp only [bu_some]
    split
    · exact ⟨_, s1, rfl, a2, a3⟩
    · exact ⟨_, s1, rfl, a2, a3⟩
  have f43 : ∀ (x5 x6 : Int32) (w : Nat) (s : aS), w < 9 → KN s0 s b i z9 N → KX s0 s b i z9 N (dm136_43 b x x2 x5 x6 b x (Int32.ofNat w) s) := by
    intro x5 x6 w s hw h
    unfold dm136_43
    obtain ⟨s1, a1, a2, a3⟩ := k60n (w := w) h hb x x5 hw
    rw [a1]
    simp only [bu_some]
    split
    · obtain ⟨v, s2, c1, c2, c3⟩ := f52 x5 x6 6 s1 (by omega) a2
      exact ⟨v, s2, c1, c2, a3.trans c3⟩
    · obtain ⟨v, s2, c1, c2, c3⟩ := f52 x5 x6 5 s1 (by omega) a2
      exact ⟨v, s2, c1, c2, a3.trans c3⟩
  have f34 : ∀ (x5 y0 y1 : Int32), KX s0 s b i z9 N (dm136_34 b x x2 x5 y0 y1 s) := by
    intro x5 y0 y1
    unfold dm136_34
    split
    · exact f43 x5 (y0 + y1) 4 s (by omega) h
    · exact f43 x5 (y0 + y1) 3 s (by omega) h
  have f25 : ∀ (x6 y0 y1 : Int32), KX s0 s b i z9 N (dm136_25 b x x2 x3 x4 x6 y0 y1 s) := by
    intro x6 y0 y1
    unfold dm136_25
    split
    · exact f34 _ _ _
    · exact f34 _ _ _
  have f16 : ∀ (x5 : Int32) (w : Nat), w < 9 → KX s0 s b i z9 N (dm136_16 b x x2 x3 x4 x5 b x (Int32.ofNat w) s) := by
    intro x5 w hw
    unfold dm136_16
    obtain ⟨v, e⟩ := k57 h.1 x w (by omega)
    rw [e]
    simp only [bu_some]
    split
    · exact f25 _ _ _
    · exact f25 _ _ _
  have f7 : ∀ (w : Nat), w < 9 → KX s0 s b i z9 N (dm136_7 b x x2 x3 x4 b x (Int32.ofNat w) s) := by
    intro w hw
    unfold dm136_7
    obtain ⟨v, e⟩ := k57 h.1 x w (by omega)
    rw [e]
    simp only [bu_some]
    split
    · exact f16 v 6 (by omega)
    · exact f16 v 5 (by omega)
  unfold dm136
  split
  · exact f7 4 (by omega)
  · exact f7 3 (by omega)
set_option maxRecDepth 100000 in
theorem k135 {N : Nat} (h : KN s0 s b i z9 N) (hb : b = 102 ∨ 149 ≤ b) (x x2 x3 x4 : Int32) : KX s0 s b i z9 N (dm135 b x x2 x3 x4 s) := by
  have f68 : ∀ (x6 x8 : Int32) (w : Nat) (s : aS), (x8 = 0 ∨ x8 = 1) → w < 9 → KN s0 s b i z9 N → KX s0 s b i z9 N (dm135_68 x6 x8 b x (Int32.ofNat w) s) := by
    intro x6 x8 w s h8 hw h
    unfold dm135_68
    obtain ⟨s1, a1, a2, a3⟩ := k60n (w := w) h hb x x6 hw
    rw [a1]
    simp only [bu_some]
    rw [if_pos h8]
    exact ⟨_, s1, rfl, a2, a3⟩
  have f59 : ∀ (x5 x6 x8 : Int32) (w : Nat) (s : aS), (x8 = 0 ∨ x8 = 1) → w < 9 → KN s0 s b i z9 N → KX s0 s b i z9 N (dm135_59 b x x2 x5 x6 x8 b x (Int32.ofNat w) s) := by
    intro x5 x6 x8 w s h8 hw h
    unfold dm135_59
    obtain ⟨s1, a1, a2, a3⟩ := k60n (w := w) h hb x x5 hw
    rw [a1]
    simp only [bu_some]
    split
    · obtain ⟨v, s2, c1, c2, c3⟩ := f68 x6 x8 6 s1 h8 (by omega) a2
      exact ⟨v, s2, c1, c2, a3.trans c3⟩
    · obtain ⟨v, s2, c1, c2, c3⟩ := f68 x6 x8 5 s1 h8 (by omega) a2
      exact ⟨v, s2, c1, c2, a3.trans c3⟩
  have f52 : ∀ (x5 x6 x8 : Int32), (x8 = 0 ∨ x8 = 1) → KX s0 s b i z9 N (dm135_52 b x x2 x5 x6 x8 s) := by
    intro x5 x6 x8 h8
    unfold dm135_52
    split
    · exact f59 x5 x6 x8 4 s h8 (by omega) h
    · exact f59 x5 x6 x8 3 s h8 (by omega) h
  have f41 : ∀ (x5 x6 x8 : Int32), (x8 = 0 ∨ x8 = 1) → KX s0 s b i z9 N (dm135_41 b x x2 x3 x4 x5 x6 x8 s) := by
    intro x5 x6 x8 h8
    unfold dm135_41
    split
    · exact f52 _ _ _ h8
    · exact f52 _ _ _ h8
  have f31 : ∀ (x5 x6 x8 : Int32), (x8 = 0 ∨ x8 = 1) → KX s0 s b i z9 N (dm135_31 b x x2 x3 x4 x5 x6 x8 s) := by
    intro x5 x6 x8 h8
    unfold dm135_31
    split
    · exact f41 _ _ _ h8
    · exact f41 _ _ _ h8
  have f16 : ∀ (x5 : Int32) (w : Nat), w < 9 → KX s0 s b i z9 N (dm135_16 b x x2 x3 x4 x5 b x (Int32.ofNat w) s) := by
    intro x5 w hw
    unfold dm135_16 dm135_28
    obtain ⟨v, e⟩ := k57 h.1 x w (by omega)
    rw [e]
    simp only [bu_some]
    split
    · exact f31 _ _ _ (Or.inr rfl)
    · split
      · exact f31 _ _ _ (Or.inl rfl)
      · exact f31 _ _ _ (Or.inr rfl)
  have f7 : ∀ (w : Nat), w < 9 → KX s0 s b i z9 N (dm135_7 b x x2 x3 x4 b x (Int32.ofNat w) s) := by
    intro w hw
    unfold dm135_7
    obtain ⟨v, e⟩ := k57 h.1 x w (by omega)
    rw [e]
    simp only [bu_some]
    split
    · exact f16 v 6 (by omega)
    · exact f16 v 5 (by omega)
  unfold dm135
  split
  · exact f7 4 (by omega)
  · exact f7 3 (by omega)
set_option maxRecDepth 100000 in
theorem k134 {N : Nat} (h : KN s0 s b i z9 N) (hb : b = 102 ∨ 149 ≤ b) (h8 : N ≤ 128) (x1 x2 x3 x4 x5 : Int32) : KX s0 s b i z9 N (dm134 b x1 x2 x3 x4 x5 s) := by
  have loop : ∀ (m j n : Nat) (x6 : Int32) (s : aS), KN s0 s b i z9 N → j + m = N → m < n → KX s0 s b i z9 N (dm134_4 n b x1 x2 x3 x4 x5 x6 (Int32.ofNat j) s) := by
    intro m
    induction m with
    | zero =>
      intro j n x6 s h h1 h2
      obtain ⟨n, rfl⟩ : ∃ q, n = q + 1 := ⟨n - 1, by omega⟩
      rw [dm134_4, h.2, if_pos ((nle_iff (by omega) (by omega)).mpr (by omega))]
      exact ⟨_, s, rfl, h, ch.refl _ s⟩
    | succ m ih =>
      intro j n x6 s h h1 h2
      obtain ⟨n, rfl⟩ : ∃ q, n = q + 1 := ⟨n - 1, by omega⟩
      have f48 : ∀ (x6 : Int32) (s : aS), KN s0 s b i z9 N → KX s0 s b i z9 N (dm134_48 (dm134_4 n) b x1 x2 x3 x4 x5 x6 (Int32.ofNat j) s) := by
        intro x6 s h
        unfold dm134_48
        rw [ofNat_succ (by omega)]
        exact ih (j + 1) n x6 s h (by omega) (by omega)
      have f41 : ∀ (y : Int32) (s : aS), KN s0 s b i z9 N → KX s0 s b i z9 N (dm134_41 (dm134_4 n) b x1 x2 x3 x4 x5 x6 (Int32.ofNat j) y s) := by
        intro y s h
        unfold dm134_41
        split
        · obtain ⟨s1, a1, a2, a3⟩ := k58n h hb h8 (show j < N by omega)
          rw [a1]
          simp only [bu_some]
          obtain ⟨v, s2, c1, c2, c3⟩ := f48 (x6 + 1) s1 a2
          exact ⟨v, s2, c1, c2, a3.trans c3⟩
        · exact f48 x6 s h
      have f25 : KX s0 s b i z9 N (dm134_25 (dm134_4 n) b x1 x2 x3 x4 x5 x6 (Int32.ofNat j) s) := by
        unfold dm134_25
        split
        · obtain ⟨v, s1, a1, a2, a3⟩ := k136 h hb (Int32.ofNat j) x3 x4 x5
          rw [a1]
          simp only [bv_some]
          obtain ⟨v, s2, c1, c2, c3⟩ := f41 v s1 a2
          exact ⟨v, s2, c1, c2, a3.trans c3⟩
        · obtain ⟨v, s1, a1, a2, a3⟩ := k135 h hb (Int32.ofNat j) x3 x4 (-x5)
          rw [a1]
          simp only [bv_some]
          obtain ⟨v, s2, c1, c2, c3⟩ := f41 v s1 a2
          exact ⟨v, s2, c1, c2, a3.trans c3⟩
      obtain ⟨v, e⟩ := k57 h.1 (Int32.ofNat j) 2 (by omega)
      have e : dm57 b (Int32.ofNat j) 2 s = some v := e
      obtain ⟨v2, e2⟩ := k129 h.1 (Int32.ofNat j)
      rw [dm134_4, h.2, if_neg (fun q => by have := (nle_iff (by omega) (by omega)).mp q; omega), e]
      simp only [bu_some]
      rw [e2]
      simp only [bu_some]
      split
      · exact f48 x6 s h
      · split
        · exact f25
        · split
          · split
            · exact f48 x6 s h
            · exact f25
          · exact f48 x6 s h
  exact loop N 0 5000 0 s h (by omega) (by omega)
/-- what is a tree, weakly -/
def TW (s : aS) (b : Nat) : Prop := ∃ N u, N ≤ 128 ∧ sI s b 2 = Int32.ofNat N ∧ TL s b u ∧ ∀ k, k < N → ∃ l, NL s b k u l ∧ okT l
set_option maxRecDepth 100000 in
theorem KD.w (h : KD s b i) : TW s b := by
  obtain ⟨⟨N, u, a1, a2, a3, -, a5⟩, -⟩ := h
  exact ⟨N, u, a1, a2, a3, a5⟩
set_option maxRecDepth 100000 in
theorem TW.of {A : Nat → Nat → Prop} {s s1 : aS} {b : Nat} (h : TW s b) (g : ch A s s1) (h0 : ¬ A b 2) (h1 : ∀ k, ¬ A (b + 1) k) (h2 : ¬ A (b + 2) 1) (h3 : ∀ k, ¬ A (b + 3) k) : TW s1 b := by
  obtain ⟨N, u, a1, a2, a3, a5⟩ := h
  refine ⟨N, u, a1, (g.i h0).trans a2, a3.of g h2 h3, fun k hk => ?_⟩
  obtain ⟨l, ⟨st, e1, e2, e3, e4⟩, e5⟩ := a5 k hk
  exact ⟨l, ⟨st, (g.i (h1 _)).trans e1, (g.i (h1 _)).trans e2, e3, e4⟩, e5⟩
set_option maxRecDepth 100000 in
theorem k127 {tt : Nat} {cc : Nat → Nat → Int32} {s : aS} {b c : Nat} (hl : Ly tt cc s) (hb : aK s b 3) (hc : aK s c 3) (hbc : b ≠ c) (h : TW s c) : ∃ s', dm127 b c s = some s' ∧ TW s' b ∧ ch (fun a _ => a = b ∨ a = b + 1 ∨ a = b + 2 ∨ a = b + 3) s s' := by
  obtain ⟨N, u, a1, a2, hu, a5⟩ := h
  have ap := tr_ne hl hb hc hbc
  have b3 := (hl.tr hb).2.2.2.2.2.2.1
  have c3 := (hl.tr hc).2.2.2.2.2.2.1
  have b0 := (hl.tr hb).1
  have j0 : jN 0 = 0 := rfl
  have j1 : jN 1408 = 1408 := rfl
  have n1 : b ≠ c + 1 := by
    rintro e
    have := (hl.tr hc).2.2.2.2.1
    rw [← e, b0] at this
    cases this
  have n2 : b ≠ c + 2 := by
    rintro e
    have := (hl.tr hc).2.2.2.2.2.1
    rw [← e, b0] at this
    cases this
  have n3 : b ≠ c + 3 := by
    rintro e
    rw [← e, b0] at c3
    cases c3
  have hc1 : ch (fun a _ => a = b ∨ a = b + 1 ∨ a = b + 2 ∨ a = b + 3) s (cpI (wI s b 2 (sI s c 2)) (c + 1) 0 (b + 1) 0 1408) := ch_cp ((ch.refl _ s).wI (Or.inl rfl)) (fun _ => Or.inr (Or.inl rfl))
  have hu1 : LT (cpI (wI s b 2 (sI s c 2)) (c + 1) 0 (b + 1) 0 1408) (c + 2) u := hu.1.of hc1 (by omega) (fun _ => by omega)
  obtain ⟨s', g1, g2, g3⟩ := d41 (b0 := b + 2) (m := 256) hu1 (by omega) (by rw [hc1.2.1, show b + 2 + 1 = b + 3 from rfl, b3]) (by rw [hc1.2.1, show c + 2 + 1 = c + 3 from rfl, c3]; exact hu.2.1) (by decide) hu.2.1 hu.2.2
  have hf : ∀ q, q < 1408 → sI s' (b + 1) q = sI s (c + 1) q := by
    intro q hq
    rw [g3.i (by omega), sI_cp, if_pos ⟨rfl, by omega, by omega⟩, Nat.zero_add, Nat.sub_zero, sI_wI, if_neg (by omega)]
  refine ⟨s', ?_, ⟨N, u, a1, ?_, ⟨g2, hu.2⟩, fun k hk => ?_⟩, hc1.trans (g3.mono fun a k q => by omega)⟩
  · unfold dm127
    rw [nx_eq, if_pos ⟨by omega, by decide, by decide, by decide, by decide, by decide⟩, nx_eq, j0, j1, g1]
    rfl
  · rw [g3.i (by omega), sI_cp, if_neg (by omega), sI_wI, if_pos ⟨rfl, rfl⟩]
    exact a2
  · obtain ⟨l, ⟨st, r1, r2, r3, r4⟩, r5⟩ := a5 k hk
    exact ⟨l, ⟨st, (hf _ (by omega)).trans r1, (hf _ (by omega)).trans r2, r3, r4⟩, r5⟩
end KK
