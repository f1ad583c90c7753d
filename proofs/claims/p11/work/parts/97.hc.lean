/-! calls of FormulaTrees that change trees come to their end: means -/
def CU (s : aS) (t : List Int32) (ns : List (List Int32)) : Prop := (LT s 79 t ∧ t.length ≤ 256 ∧ okT t) ∧ (SQ s ns ∧ nsOk ns) ∧ (∀ b, aK s b 3 → TW s b) ∧ RD s
section CVs
variable {tt : Nat} {cc : Nat → Nat → Int32} {s s1 s2 : aS} {t : List Int32} {ns : List (List Int32)} {A : Nat → Nat → Prop} {b c : Nat}
set_option maxRecDepth 100000 in
theorem CV.u (h : CV s t ns) : CU s t ns := ⟨h.1, h.2.1, h.2.2.2⟩
set_option maxRecDepth 100000 in
theorem CU.v (h : CU s t ns) (ht : TD s) : CV s t ns := ⟨h.1, h.2.1, ht, h.2.2⟩
set_option maxRecDepth 100000 in
theorem CU.of (h : CU s t ns) (hl : Ly tt cc s) (g : ch A s s1) (hA : ∀ a k, A a k → a = 78 ∨ a = 100 ∨ a = 101 ∨ (117 ≤ a ∧ a ≤ 148)) : CU s1 t ns := by
  obtain ⟨⟨a1, a2⟩, ⟨b1, b2⟩, d1, e1⟩ := h
  refine ⟨⟨a1.of g (fun q => by have := hA _ _ q; omega) (fun j q => by have := hA _ _ q; omega), a2⟩, ⟨b1.of b2.1 g (fun a k q => by have := hA _ _ q; omega), b2⟩, fun b hb => ?_, e1.of g (fun a k q => by have := hA _ _ q; omega)⟩
  have hb := g.k.mp hb
  have h3 := tr_at hl hb
  exact (d1 b hb).of g (fun q => by have := hA _ _ q; omega) (fun k q => by have := hA _ _ q; omega) (fun q => by have := hA _ _ q; omega) (fun k q => by have := hA _ _ q; omega)
set_option maxRecDepth 100000 in
theorem CU.gx (h : CU s t ns) (hl : Ly tt cc s) (g : gx s s1) (hn : ∀ b, aK s1 b 3 → sL s ≤ b → TW s1 b) : CU s1 t ns := by
  obtain ⟨⟨a1, a2⟩, ⟨b1, b2⟩, d1, e1⟩ := h
  have hL : 149 ≤ sL s := hl.1
  refine ⟨⟨a1.gx g (by omega), a2⟩, ⟨b1.gx b2.1 g hL, b2⟩, fun b hb => ?_, e1.gx g hL⟩
  by_cases hbl : b < sL s
  · have hb0 : aK s b 3 := ⟨hbl, by rw [← (g.2 b hbl).1]; exact hb.2⟩
    exact (d1 b hb0).gx g (hl.tr hb0).2.2.2.1
  · exact hn b hb (by omega)
set_option maxRecDepth 100000 in
/-- a new tree is one -/
theorem nT_w (s : aS) (hL : 149 ≤ sL s) : ∀ b, aK (nTree s) b 3 → sL s ≤ b → TW (nTree s) b := by
  intro b hb hbl
  have h1 : b < sL s + 4 := hb.1
  have h2 : (sT (nTree s) b).1 = 3 := hb.2
  have e : b = sL s := by
    rw [nTree_T] at h2
    by_cases c3 : b = sL s + 3
    · rw [if_pos c3] at h2
      cases h2
    · rw [if_neg c3] at h2
      by_cases c2 : b = sL s + 2
      · rw [if_pos c2] at h2
        cases h2
      · rw [if_neg c2] at h2
        by_cases c1 : b = sL s + 1
        · rw [if_pos c1] at h2
          cases h2
        · omega
  subst e
  refine ⟨0, [], by omega, ?_, ⟨⟨?_, fun j hj => absurd hj (Nat.not_lt_zero j)⟩, Nat.zero_le _, fun y hy => (by cases hy)⟩, fun k hk => absurd hk (Nat.not_lt_zero k)⟩
  · rw [nTree_I, if_neg (by omega), if_neg (by omega), if_neg (by omega), if_pos rfl]
    rfl
  · rw [nTree_I, if_neg (by omega), if_pos rfl]
    rfl
set_option maxRecDepth 100000 in
theorem aSz_nT (s : aS) : aSz (nTree s) = aSz s + 1669 := by
  unfold nTree
  rw [aSz_wR, aSz_wR, aSz_nw, aSz_nw, aSz_wR, aSz_nw, aSz_nw]
  have w1 : wt (3, 3) = 3 := by decide
  have w2 : wt (100, 1408) = 1408 := by decide
  have w3 : wt (1, 2) = 2 := by decide
  have w4 : wt (102, 256) = 256 := by decide
  rw [w1, w2, w3, w4]
set_option maxRecDepth 100000 in
theorem gw_nT (s : aS) : gw s (nTree s) := ⟨by rw [nTree_L]; omega, by rw [aSz_nT]; omega⟩
set_option maxRecDepth 100000 in
theorem gw.tr (h : gw s s1) (g : ch A s1 s2) : gw s s2 := ⟨by rw [g.1]; exact h.1, by rw [aSz_ch g]; exact h.2⟩
set_option maxRecDepth 100000 in
theorem gw.d (g : ch A s s1) (h : gw s1 s2) : gw s s2 := ⟨by rw [← g.1]; exact h.1, by rw [← aSz_ch g]; exact h.2⟩
set_option maxRecDepth 100000 in
/-- the reader has run -/
theorem CV.rd (h : CV s t ns) (hl : Ly tt cc s) (hb : aK s b 3) (g : ch A s s1) (hA : ∀ a k, A a k → a = b ∨ a = b + 1 ∨ a = b + 2 ∨ a = b + 3 ∨ (106 ≤ a ∧ a ≤ 116)) (hw : TW s1 b) (hr : RD s1) : CV s1 t ns := by
  obtain ⟨⟨a1, a2⟩, ⟨b1, b2⟩, c1, d1, e1⟩ := h
  have hb3 := tr_at hl hb
  refine ⟨⟨a1.of g (fun q => by have := hA _ _ q; omega) (fun j q => by have := hA _ _ q; omega), a2⟩, ⟨b1.of b2.1 g (fun a k q => by have := hA _ _ q; omega), b2⟩, c1.of g (fun k q => by have := hA _ _ q; omega) (fun q => by have := hA _ _ q; omega), fun c hc => ?_, hr⟩
  by_cases e : c = b
  · rw [e]
    exact hw
  · have hc := g.k.mp hc
    have h3 := tr_at hl hc
    have p := tr_ne hl hc hb e
    have q := tr_ne hl hb hc (fun z => e z.symm)
    exact (d1 c hc).of g (fun z => by have := hA _ _ z; omega) (fun k z => by have := hA _ _ z; omega) (fun z => by have := hA _ _ z; omega) (fun k z => by have := hA _ _ z; omega)
set_option maxRecDepth 100000 in
/-- names are changed -/
theorem CV.nm {ns1 : List (List Int32)} (h : CV s t ns) (hl : Ly tt cc s) (g : ch (fun a _ => 81 ≤ a ∧ a ≤ 99) s s1) (hq : SQ s1 ns1) (hn : nsOk ns1) : CV s1 t ns1 := by
  obtain ⟨⟨a1, a2⟩, -, c1, d1, e1⟩ := h
  refine ⟨⟨a1.of g (by omega) (fun j => by omega), a2⟩, ⟨hq, hn⟩, c1.of g (fun k => by omega) (by omega), fun b hb => ?_, e1.of g (fun a k q => by omega)⟩
  have hb := g.k.mp hb
  have h3 := tr_at hl hb
  exact (d1 b hb).of g (by omega) (fun k => by omega) (by omega) (fun k => by omega)
set_option maxRecDepth 100000 in
/-- the text is changed -/
theorem CV.tx {t1 : List Int32} (h : CV s t ns) (hl : Ly tt cc s) (g : ch (fun a _ => a = 79 ∨ a = 80) s s1) (hq : LT s1 79 t1) (hn : t1.length ≤ 256 ∧ okT t1) : CV s1 t1 ns := by
  obtain ⟨-, ⟨b1, b2⟩, c1, d1, e1⟩ := h
  refine ⟨⟨hq, hn⟩, ⟨b1.of b2.1 g (fun a k q => by omega), b2⟩, c1.of g (fun k => by omega) (by omega), fun b hb => ?_, e1.of g (fun a k q => by omega)⟩
  have hb := g.k.mp hb
  have h3 := tr_at hl hb
  exact (d1 b hb).of g (by omega) (fun k => by omega) (by omega) (fun k => by omega)
set_option maxRecDepth 100000 in
theorem ofNat_any (x : Int32) : ∃ i, x = Int32.ofNat i := by
  refine ⟨(x.toInt % 4294967296).toNat, ?_⟩
  have h := iRange x
  by_cases c : 0 ≤ x.toInt
  · rw [show (x.toInt % 4294967296).toNat = x.toInt.toNat by omega]
    exact ofNat_of c
  · rw [iEq]
    show x.toInt = (Int32.ofNat (x.toInt % 4294967296).toNat).toInt
    rw [Int32.toInt_ofNat', show (((x.toInt % 4294967296).toNat : Nat) : Int) = x.toInt + ((4294967296 : Nat) : Int) by omega, show Int32.size = 4294967296 from rfl, Int.add_bmod_right]
    exact (Int.bmod_eq_of_le (by omega) (by omega)).symm
set_option maxRecDepth 100000 in
theorem kn_of (h : TW s b) (hr : RD s) : ∃ i N, N ≤ 128 ∧ KN s s b i 256 N := by
  obtain ⟨N, u, a1, a2, a3, a5⟩ := h
  obtain ⟨i, ei⟩ := ofNat_any (sI s 106 7)
  exact ⟨i, N, a1, ⟨ch.refl _ s, ei, ⟨N, u, a1, a2, a3, a3.2.1, a5⟩, hr⟩, a2⟩
set_option maxRecDepth 100000 in
theorem TD.nT {y : Nat} (ht : TD s) (hL : 149 ≤ sL s) (hy : y < 8) (hn : sR s 100 y = .null) : TD (wR (nTree s) 100 y (.ref (sL s))) := by
  have eR : ∀ f, f ≠ y → sR (wR (nTree s) 100 y (.ref (sL s))) 100 f = sR s 100 f := fun f hf => by
    rw [sR_wR, if_neg (by omega), nT_R (by omega)]
  have eY : sR (wR (nTree s) 100 y (.ref (sL s))) 100 y = .ref (sL s) := by rw [sR_wR, if_pos ⟨rfl, rfl⟩]
  have eK : ∀ b, aK s b 3 → aK (wR (nTree s) 100 y (.ref (sL s))) b 3 := fun b hb => nT_K hb
  have eN : aK (wR (nTree s) 100 y (.ref (sL s))) (sL s) 3 := ⟨by show sL s < sL s + 4; omega, by
    show (sT (nTree s) (sL s)).1 = 3
    rw [nTree_T, if_neg (by omega), if_neg (by omega), if_neg (by omega), if_pos rfl]⟩
  have old : ∀ f, f < 8 → f ≠ y → sR s 100 f ≠ .ref (sL s) := fun f hf hfy q => by
    rcases ht.1 f hf with z | ⟨b, z1, z2⟩
    · rw [z] at q
      cases q
    · rw [z1] at q
      cases q
      exact absurd z2.1 (Nat.lt_irrefl _)
  refine ⟨fun f hf => ?_, fun f g b hf hg q1 q2 => ?_, ?_⟩
  · by_cases e : f = y
    · subst e
      exact Or.inr ⟨_, eY, eN⟩
    · rw [eR f e]
      rcases ht.1 f hf with z | ⟨b, z1, z2⟩
      · exact Or.inl z
      · exact Or.inr ⟨b, z1, eK b z2⟩
  · by_cases e1 : f = y
    · by_cases e2 : g = y
      · rw [e1, e2]
      · subst e1
        rw [eY] at q1
        cases q1
        rw [eR g e2] at q2
        exact absurd q2 (old g hg e2)
    · rw [eR f e1] at q1
      by_cases e2 : g = y
      · subst e2
        rw [eY] at q2
        cases q2
        exact absurd q1 (old f hf e1)
      · rw [eR g e2] at q2
        exact ht.2.1 f g b hf hg q1 q2
  · obtain ⟨b, b1, b2, b3⟩ := ht.2.2
    refine ⟨b, ?_, eK b b2, fun f hf q => ?_⟩
    · rw [sR_wR, if_neg (by omega), nT_R (by omega)]
      exact b1
    · by_cases e : f = y
      · subst e
        rw [eY] at q
        cases q
        exact absurd b2.1 (Nat.lt_irrefl _)
      · rw [eR f e] at q
        exact b3 f hf q
end CVs
