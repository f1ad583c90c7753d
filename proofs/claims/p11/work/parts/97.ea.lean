/-! the reader of FormulaTrees comes to its end: what is so while it reads -/
def AC (b a k : Nat) : Prop := a = b ∨ a = b + 1 ∨ a = b + 2 ∨ a = b + 3 ∨ (107 ≤ a ∧ a ≤ 116) ∨ (a = 106 ∧ 7 ≤ k)
def ES (s : aS) : Prop := ∀ e, 1 ≤ e → e < 8 → ST s (19 + 2 * e) (erN e) ∧ aK s (19 + 2 * e) 70
set_option maxRecDepth 100000 in
theorem ES.ly {tt : Nat} {xs : List Int32} {s : aS} (h : Ly tt (cCc xs) s) : ES s := by
  intro e h1 h2
  match e, h1, h2 with
  | 1, _, _ => exact ⟨ST.ly h 10 (by decide), Lay.lowK h (by decide) (by decide)⟩
  | 2, _, _ => exact ⟨ST.ly h 11 (by decide), Lay.lowK h (by decide) (by decide)⟩
  | 3, _, _ => exact ⟨ST.ly h 12 (by decide), Lay.lowK h (by decide) (by decide)⟩
  | 4, _, _ => exact ⟨ST.ly h 13 (by decide), Lay.lowK h (by decide) (by decide)⟩
  | 5, _, _ => exact ⟨ST.ly h 14 (by decide), Lay.lowK h (by decide) (by decide)⟩
  | 6, _, _ => exact ⟨ST.ly h 15 (by decide), Lay.lowK h (by decide) (by decide)⟩
  | 7, _, _ => exact ⟨ST.ly h 16 (by decide), Lay.lowK h (by decide) (by decide)⟩
def KS (s : aS) (b : Nat) (t : List Int32) (ns : List (List Int32)) : Prop := (LT s 79 t ∧ t.length ≤ 256 ∧ okT t ∧ (sT s 80).2 = 256) ∧ (sR s 106 6 = .ref b ∧ aK s b 3 ∧ (b = 102 ∨ 149 ≤ b) ∧ (sT s (b + 3)).2 = 256 ∧ (sT s 108).2 = 256) ∧ SC s ns ∧ nsOk ns ∧ RC s ∧ TF s ∧ ES s
set_option maxRecDepth 100000 in
theorem KS.of {s s1 : aS} {b : Nat} {t : List Int32} {ns : List (List Int32)} (h : KS s b t ns) (g : ch (AC b) s s1) : KS s1 b t ns := by
  obtain ⟨⟨a1, a2, a3, a4⟩, ⟨b1, b2, b3, b4, b5⟩, c1, c2, c3, c4, c5⟩ := h
  have hlow : ∀ a k, AC b a k → 78 ≤ a := fun a k z => by unfold AC at z; omega
  refine ⟨⟨a1.of g (by unfold AC; omega) (fun j => by unfold AC; omega), a2, a3, by rw [g.2.1]; exact a4⟩, ⟨(g.r (by unfold AC; omega)).trans b1, g.k.mpr b2, b3, by rw [g.2.1]; exact b4, by rw [g.2.1]; exact b5⟩, ⟨(g.i (by unfold AC; omega)).trans c1.1, fun i hi => ?_⟩, c2, c3.of g, c4.of g hlow, fun e h1 h2 => ⟨(c5 e h1 h2).1.of (by omega) g hlow, g.k.mpr (c5 e h1 h2).2⟩⟩
  have h8 := c2.1
  exact (c1.2 i hi).of g (by unfold AC; omega) (fun j => by unfold AC; omega)
/-- the tree so far, and the other parts of the reader -/
def KD (s : aS) (b i : Nat) : Prop := (∃ N u, N ≤ 128 ∧ sI s b 2 = Int32.ofNat N ∧ TL s b u ∧ u.length ≤ i ∧ ∀ k, k < N → ∃ l, NL s b k u l ∧ okT l) ∧ (∃ hd, LT s 107 hd ∧ hd.length ≤ 256 ∧ okT hd) ∧ (∃ m, m ≤ 128 ∧ sI s 110 2 = Int32.ofNat m) ∧ ∃ o, o ≤ 32 ∧ sI s 113 3 = Int32.ofNat o
def KW (s0 s : aS) (b i z9 : Nat) : Prop := ch (AC b) s0 s ∧ sI s 106 7 = Int32.ofNat i ∧ KD s b z9
/-- what may change without touching the tree, the letters and the counts -/
def AF (a k : Nat) : Prop := (a = 106 ∧ 8 ≤ k) ∨ a = 109 ∨ a = 111 ∨ a = 112 ∨ a = 114 ∨ a = 115 ∨ a = 116
set_option maxRecDepth 100000 in
theorem KD.of {s s1 : aS} {b i j : Nat} (h : KD s b i) (hb : b = 102 ∨ 149 ≤ b) (g : ch (fun a k => AF a k ∨ a = 106) s s1) (hij : i ≤ j) : KD s1 b j := by
  obtain ⟨⟨N, u, a1, a2, a3, a4, a5⟩, ⟨hd, b1, b2, b3⟩, ⟨m, c1, c2⟩, o, d1, d2⟩ := h
  refine ⟨⟨N, u, a1, (g.i (by unfold AF; omega)).trans a2, a3.of g (by unfold AF; omega) (fun k => by unfold AF; omega), by omega, fun k hk => ?_⟩, ⟨hd, b1.of g (by unfold AF; omega) (fun k => by unfold AF; omega), b2, b3⟩, ⟨m, c1, (g.i (by unfold AF; omega)).trans c2⟩, o, d1, (g.i (by unfold AF; omega)).trans d2⟩
  obtain ⟨l, ⟨st, e1, e2, e3, e4⟩, e5⟩ := a5 k hk
  exact ⟨l, ⟨st, (g.i (by unfold AF; omega)).trans e1, (g.i (by unfold AF; omega)).trans e2, e3, e4⟩, e5⟩
set_option maxRecDepth 100000 in
theorem KW.f {s0 s s1 : aS} {b i z9 : Nat} (h : KW s0 s b i z9) (hb : b = 102 ∨ 149 ≤ b) (g : ch AF s s1) : KW s0 s1 b i z9 := ⟨h.1.trans (g.mono fun a k z => by unfold AF at z; unfold AC; omega), (g.i (by unfold AF; omega)).trans h.2.1, h.2.2.of hb (g.mono fun a k z => Or.inl z) (Nat.le_refl _)⟩
set_option maxRecDepth 100000 in
theorem KW.at {s0 s : aS} {b i j z9 : Nat} (h : KW s0 s b i z9) (hb : b = 102 ∨ 149 ≤ b) : KW s0 (wI s 106 7 (Int32.ofNat j)) b j z9 := ⟨h.1.wI (by unfold AC; omega), by rw [sI_wI, if_pos ⟨rfl, rfl⟩], h.2.2.of hb ((ch.refl _ s).wI (Or.inr rfl)) (Nat.le_refl _)⟩
set_option maxRecDepth 100000 in
theorem KW.up {s0 s : aS} {b i z z9 : Nat} (h : KW s0 s b i z9) (hb : b = 102 ∨ 149 ≤ b) (hz : z9 ≤ z) : KW s0 s b i z := ⟨h.1, h.2.1, h.2.2.of hb (ch.refl _ s) hz⟩
/-- how a method comes to its end -/
def KO (s0 : aS) (b i e : Nat) (D : Option aS) : Prop := ∃ s' j, D = some s' ∧ KW s0 s' b j j ∧ i ≤ j ∧ j ≤ e
set_option maxRecDepth 100000 in
theorem KO.s {s0 s : aS} {b i j e : Nat} (h : KW s0 s b j j) (h1 : i ≤ j) (h2 : j ≤ e) : KO s0 b i e (some s) := ⟨s, j, rfl, h, h1, h2⟩
set_option maxRecDepth 100000 in
theorem KO.b {s0 : aS} {b i e : Nat} {D : Option aS} {K : aS → Option aS} (h : KO s0 b i e D) (k : ∀ s1 j, KW s0 s1 b j j → i ≤ j → j ≤ e → KO s0 b i e (K s1)) : KO s0 b i e (bu D K) := by
  obtain ⟨s', j, h1, h2, h3, h4⟩ := h
  rw [h1]
  exact k s' j h2 h3 h4
set_option maxRecDepth 100000 in
theorem KO.m {s0 : aS} {b i j e : Nat} {D : Option aS} (h : KO s0 b j e D) (h1 : i ≤ j) : KO s0 b i e D := by
  obtain ⟨s', k, a1, a2, a3, a4⟩ := h
  exact ⟨s', k, a1, a2, by omega, a4⟩
section KK
variable {s0 s : aS} {b i z9 : Nat} {t : List Int32} {ns : List (List Int32)}
set_option maxRecDepth 100000 in
theorem kch (h0 : KS s0 b t ns) (h : KW s0 s b i z9) {j : Nat} (hj : j < 100000) : dm34 79 (Int32.ofNat j) s = some (t.getD j (-1)) := by
  have hs := h0.of h.1
  exact d34 hs.1.1 (by rw [hs.1.2.2.2]; exact hs.1.2.1) (by have := hs.1.2.1; omega) (by omega)
set_option maxRecDepth 100000 in
theorem klen (h0 : KS s0 b t ns) (h : KW s0 s b i z9) : dm28 79 s = some (Int32.ofNat t.length) := by
  unfold dm28
  rw [(h0.of h.1).1.1.n]
set_option maxRecDepth 100000 in
theorem kin {p : Int32 → Prop} {j : Nat} (h0 : ¬ p (-1)) (h : p (t.getD j (-1))) : j < t.length := in_of h0 h
set_option maxRecDepth 100000 in
/-- spaces -/
theorem k67 (h0 : KS s0 b t ns) (h : KW s0 s b i i) (hi : i ≤ t.length) : KO s0 b i t.length (dm67 s) := by
  have hl := h0.1.2.1
  have hb := h0.2.1.2.2.1
  have loop : ∀ (m i n : Nat) (s : aS), KW s0 s b i i → t.length ≤ i + m → i ≤ t.length → m < n → KO s0 b i t.length (dm67_0 n s) := by
    intro m
    induction m with
    | zero =>
      intro i n s h h1 h2 h3
      obtain ⟨n, rfl⟩ : ∃ q, n = q + 1 := ⟨n - 1, by omega⟩
      rw [dm67_0, klen h0 h, h.2.1]
      simp only [bu_some]
      rw [if_pos ((nle_iff (by omega) (by omega)).mpr (by omega))]
      exact KO.s h (Nat.le_refl _) h2
    | succ m ih =>
      intro i n s h h1 h2 h3
      obtain ⟨n, rfl⟩ : ∃ q, n = q + 1 := ⟨n - 1, by omega⟩
      rw [dm67_0, klen h0 h, h.2.1, kch h0 h (by omega)]
      simp only [bu_some, nx_eq]
      by_cases c : t.length ≤ i
      · rw [if_pos ((nle_iff (by omega) (by omega)).mpr c)]
        exact KO.s h (Nat.le_refl _) h2
      · rw [if_neg (fun q => c ((nle_iff (by omega) (by omega)).mp q))]
        split
        · rw [ofNat_succ (by omega)]
          exact (ih (i + 1) n _ ((h.at hb).up hb (by omega)) (by omega) (by omega) (by omega)).m (by omega)
        · exact KO.s h (Nat.le_refl _) h2
  exact loop t.length i 5000 s h (by omega) hi (by omega)
set_option maxRecDepth 100000 in
/-- room for a node -/
theorem k70 (h0 : KS s0 b t ns) (h : KW s0 s b i z9) (x : Int32) : ∃ v s', dm70 x s = some (v, s') ∧ KW s0 s' b i z9 ∧ ch (fun a k => a = 106 ∧ k = 8) s s' := by
  have hb := h0.2.1.2.2.1
  have hs := h0.of h.1
  unfold dm70 dm70_7 dm71
  rw [hs.2.1.1, vN_ref, if_pos hs.2.1.2.1]
  split
  · simp only [bu_some]
    rw [if_pos trivial, if_neg (by decide), if_pos (Or.inr trivial)]
    exact ⟨1, s, rfl, h, ch.refl _ s⟩
  · simp only [bu_some]
    rw [if_neg (by decide), if_pos trivial, nx_eq, if_pos (Or.inl trivial)]
    have hc : ch (fun a k => a = 106 ∧ k = 8) s (wI s 106 8 x) := (ch.refl _ s).wI ⟨rfl, rfl⟩
    exact ⟨0, _, rfl, h.f hb (hc.mono fun a k z => by unfold AF; omega), hc⟩
set_option maxRecDepth 100000 in
theorem ktr (h0 : KS s0 b t ns) (h : KW s0 s b i z9) {β : Type} {x : Option β} {f : Nat → Option β} : vN (sR s 106 6) x f = f b ∧ aK s b 3 := by
  have hs := h0.of h.1
  rw [hs.2.1.1, vN_ref]
  exact ⟨rfl, hs.2.1.2.1⟩
set_option maxRecDepth 100000 in
/-- brackets and operators that wait -/
theorem k74 (h : KW s0 s b i z9) : ∃ v, dm74 s = some v := by
  obtain ⟨-, -, -, -, -, o, o1, o2⟩ := h
  unfold dm74
  rw [o2]
  by_cases c : o = 0
  · subst c
    rw [if_pos (by decide)]
    exact ⟨_, rfl⟩
  · have e : Int32.ofNat o - 1 = Int32.ofNat (o - 1) := ofNat_sub1 (by omega) (by omega)
    rw [if_neg (fun q => by have := (nle_iff (b := 0) (by omega) (by omega)).mp q; omega), e, if_pos (aB_of (by omega) (by omega))]
    exact ⟨_, rfl⟩
set_option maxRecDepth 100000 in
theorem k78 (h : KW s0 s b i z9) : ∃ v, dm78 s = some v := by
  obtain ⟨-, -, -, -, -, o, o1, o2⟩ := h
  unfold dm78
  rw [o2]
  by_cases c : o = 0
  · subst c
    rw [if_pos (by decide)]
    exact ⟨_, rfl⟩
  · have e : Int32.ofNat o - 1 = Int32.ofNat (o - 1) := ofNat_sub1 (by omega) (by omega)
    rw [if_neg (fun q => by have := (nle_iff (b := 0) (by omega) (by omega)).mp q; omega), e, if_pos (aB_of (by omega) (by omega))]
    exact ⟨_, rfl⟩
set_option maxRecDepth 100000 in
theorem k79 (h : KW s0 s b i z9) : ∃ v, dm79 s = some v := by
  obtain ⟨-, -, -, -, -, o, o1, o2⟩ := h
  unfold dm79
  rw [o2]
  by_cases c : o = 0
  · subst c
    rw [if_pos (by decide)]
    exact ⟨_, rfl⟩
  · have e : Int32.ofNat o - 1 = Int32.ofNat (o - 1) := ofNat_sub1 (by omega) (by omega)
    rw [if_neg (fun q => by have := (nle_iff (b := 0) (by omega) (by omega)).mp q; omega), e, if_pos (aB_of (by omega) (by omega))]
    exact ⟨_, rfl⟩
set_option maxRecDepth 100000 in
theorem k73 (h : KW s0 s b i z9) : ∃ v, dm73 s = some v := by
  obtain ⟨v, e⟩ := k74 h
  unfold dm73
  rw [e]
  simp only [bu_some]
  split <;> exact ⟨_, rfl⟩
set_option maxRecDepth 100000 in
theorem k76 (hb : b = 102 ∨ 149 ≤ b) (h : KW s0 s b i z9) : ∃ s', dm76 s = some s' ∧ KW s0 s' b i z9 := by
  obtain ⟨-, -, -, -, -, o, o1, o2⟩ := id h
  unfold dm76
  rw [o2]
  by_cases c : o = 0
  · subst c
    rw [if_pos (by decide)]
    exact ⟨s, rfl, h⟩
  · have e : Int32.ofNat o - 1 = Int32.ofNat (o - 1) := ofNat_sub1 (by omega) (by omega)
    rw [if_neg (fun q => by have := (nle_iff (b := 0) (by omega) (by omega)).mp q; omega), e, if_pos (aB_of (by omega) (by omega)), if_pos (aB_of (by omega) (by omega))]
    exact ⟨_, rfl, h.f hb ((ch.refl _ s).wI (by unfold AF; omega))⟩
set_option maxRecDepth 100000 in
/-- the count of what waits, or of brackets, becomes another -/
theorem KW.p {s0 s : aS} {b i m z9 : Nat} (h : KW s0 s b i z9) (hb : b = 102 ∨ 149 ≤ b) (hm : m ≤ 128) : KW s0 (wI s 110 2 (Int32.ofNat m)) b i z9 := by
  obtain ⟨g1, g2, ⟨N, u, a1, a2, a3, a4, a5⟩, ⟨hd, b1, b2, b3⟩, ⟨m0, c1, c2⟩, o, d1, d2⟩ := h
  have g : ch (fun a k => a = 110 ∧ k = 2) s (wI s 110 2 (Int32.ofNat m)) := (ch.refl _ s).wI ⟨rfl, rfl⟩
  refine ⟨g1.wI (by unfold AC; omega), (g.i (by omega)).trans g2, ⟨N, u, a1, (g.i (by omega)).trans a2, a3.of g (by omega) (fun k => by omega), a4, fun k hk => ?_⟩, ⟨hd, b1.of g (by omega) (fun k => by omega), b2, b3⟩, ⟨m, hm, by rw [sI_wI, if_pos ⟨rfl, rfl⟩]⟩, o, d1, (g.i (by omega)).trans d2⟩
  obtain ⟨l, ⟨st, e1, e2, e3, e4⟩, e5⟩ := a5 k hk
  exact ⟨l, ⟨st, (g.i (by omega)).trans e1, (g.i (by omega)).trans e2, e3, e4⟩, e5⟩
set_option maxRecDepth 100000 in
theorem KW.o {s0 s : aS} {b i o z9 : Nat} (h : KW s0 s b i z9) (hb : b = 102 ∨ 149 ≤ b) (ho : o ≤ 32) : KW s0 (wI s 113 3 (Int32.ofNat o)) b i z9 := by
  obtain ⟨g1, g2, ⟨N, u, a1, a2, a3, a4, a5⟩, ⟨hd, b1, b2, b3⟩, ⟨m0, c1, c2⟩, o0, d1, d2⟩ := h
  have g : ch (fun a k => a = 113 ∧ k = 3) s (wI s 113 3 (Int32.ofNat o)) := (ch.refl _ s).wI ⟨rfl, rfl⟩
  refine ⟨g1.wI (by unfold AC; omega), (g.i (by omega)).trans g2, ⟨N, u, a1, (g.i (by omega)).trans a2, a3.of g (by omega) (fun k => by omega), a4, fun k hk => ?_⟩, ⟨hd, b1.of g (by omega) (fun k => by omega), b2, b3⟩, ⟨m0, c1, (g.i (by omega)).trans c2⟩, o, ho, by rw [sI_wI, if_pos ⟨rfl, rfl⟩]⟩
  obtain ⟨l, ⟨st, e1, e2, e3, e4⟩, e5⟩ := a5 k hk
  exact ⟨l, ⟨st, (g.i (by omega)).trans e1, (g.i (by omega)).trans e2, e3, e4⟩, e5⟩
set_option maxRecDepth 100000 in
theorem k65 (hb : b = 102 ∨ 149 ≤ b) (h : KW s0 s b i z9) (x : Int32) : ∃ s', dm65 x s = some s' ∧ KW s0 s' b i z9 := by
  obtain ⟨-, -, -, -, ⟨m, m1, m2⟩, -⟩ := id h
  unfold dm65
  by_cases c1 : x < 0
  · rw [if_pos c1]
    exact ⟨s, rfl, h⟩
  · rw [if_neg c1, m2]
    by_cases c2 : Int32.ofNat m ≤ x
    · rw [if_pos c2]
      exact ⟨s, rfl, h⟩
    · rw [if_neg c2]
      have z1 : ¬ x.toInt < 0 := fun q => c1 (iLt.mpr q)
      have z2 : ¬ (m : Int) ≤ x.toInt := fun q => c2 (iLe.mpr (by rw [iOfNat (by omega)]; exact q))
      have ex : x = Int32.ofNat x.toInt.toNat := ofNat_of (by omega)
      refine ⟨_, rfl, ?_⟩
      rw [ex]
      exact h.p hb (by omega)
set_option maxRecDepth 100000 in
theorem k80 (hb : b = 102 ∨ 149 ≤ b) (h : KW s0 s b i z9) : ∃ s', dm80 s = some s' ∧ KW s0 s' b i z9 := by
  obtain ⟨-, -, -, -, -, o, o1, o2⟩ := id h
  unfold dm80
  rw [o2]
  by_cases c : o = 0
  · subst c
    rw [if_pos (by decide)]
    exact ⟨s, rfl, h⟩
  · have e : Int32.ofNat o - 1 = Int32.ofNat (o - 1) := ofNat_sub1 (by omega) (by omega)
    rw [if_neg (fun q => by have := (nle_iff (b := 0) (by omega) (by omega)).mp q; omega), nx_eq, e]
    exact ⟨_, rfl, h.o hb (by omega)⟩
set_option maxRecDepth 100000 in
theorem k86 (hb : b = 102 ∨ 149 ≤ b) (h : KW s0 s b i z9) (x1 x2 x3 : Int32) : ∃ v s', dm86 x1 x2 x3 s = some (v, s') ∧ KW s0 s' b i z9 := by
  have loop : ∀ (m n : Nat) (s : aS) (x4 : Int32), KW s0 s b i z9 → sI s 110 2 = Int32.ofNat m → m ≤ 128 → m < n → ∃ v s', dm86_2 n x1 x2 x4 s = some (v, s') ∧ KW s0 s' b i z9 := by
    intro m
    induction m with
    | zero =>
      intro n s x4 h h1 h2 h3
      obtain ⟨n, rfl⟩ : ∃ q, n = q + 1 := ⟨n - 1, by omega⟩
      rw [dm86_2, h1]
      split
      · exact ⟨_, _, rfl, h⟩
      · rw [if_pos (by decide)]
        exact ⟨_, _, rfl, h⟩
    | succ m ih =>
      intro n s x4 h h1 h2 h3
      obtain ⟨n, rfl⟩ : ∃ q, n = q + 1 := ⟨n - 1, by omega⟩
      have e : Int32.ofNat (m + 1) - 1 = Int32.ofNat m := ofNat_sub1 (n := m + 1) (by omega) (by omega)
      rw [dm86_2, h1]
      split
      · exact ⟨_, _, rfl, h⟩
      · rw [if_neg (fun q => by have := (nle_iff (b := 0) (by omega) (by omega)).mp q; omega), e, if_pos (aB_of (by omega) (by omega))]
        split
        · exact ⟨_, _, rfl, h⟩
        · have ez : sI (wI s 110 2 (Int32.ofNat m)) 110 2 = Int32.ofNat m := by rw [sI_wI, if_pos ⟨rfl, rfl⟩]
          rw [nx_eq, ez, if_pos (aB_of (by omega) (by omega))]
          exact ih n _ _ (h.p hb (by omega)) (by rw [sI_wI, if_pos ⟨rfl, rfl⟩]) (by omega) (by omega)
  obtain ⟨-, -, -, -, ⟨m, m1, m2⟩, -⟩ := id h
  exact loop m 5000 s x3 h m2 m1 (by omega)
set_option maxRecDepth 100000 in
theorem k87 (hb : b = 102 ∨ 149 ≤ b) (h : KW s0 s b i z9) (x1 x2 : Int32) : ∃ s', dm87 x1 x2 s = some s' ∧ KW s0 s' b i z9 := by
  obtain ⟨-, -, -, -, ⟨m, m1, m2⟩, -⟩ := id h
  unfold dm87
  rw [m2]
  by_cases c : m = 128
  · subst c
    rw [if_pos (by decide)]
    exact ⟨s, rfl, h⟩
  · have bm : aB (Int32.ofNat m) 128 := aB_of (by omega) (by omega)
    rw [if_neg (fun q => by have := (nle_iff (a := 128) (by omega) (by omega)).mp q; omega), if_pos bm]
    simp only [nx_eq]
    have e1 : sI (wI s 111 (jN (Int32.ofNat m)) x1) 110 2 = Int32.ofNat m := by rw [sI_wI, if_neg (by omega)]; exact m2
    rw [e1, if_pos bm]
    have e2 : sI (wI (wI s 111 (jN (Int32.ofNat m)) x1) 112 (jN (Int32.ofNat m)) x2) 110 2 = Int32.ofNat m := by rw [sI_wI, if_neg (by omega)]; exact e1
    rw [e2, ofNat_succ (by omega)]
    exact ⟨_, rfl, KW.p (h.f hb (((ch.refl _ s).wI (by unfold AF; omega)).wI (by unfold AF; omega))) hb (by omega)⟩
set_option maxRecDepth 100000 in
theorem k117 (hb : b = 102 ∨ 149 ≤ b) (h : KW s0 s b i z9) (x1 x2 x3 : Int32) : ∃ s', dm117 x1 x2 x3 s = some s' ∧ KW s0 s' b i z9 := by
  obtain ⟨-, -, -, -, -, m, m1, m2⟩ := id h
  unfold dm117
  rw [m2]
  by_cases c : m = 32
  · subst c
    rw [if_pos (by decide)]
    exact ⟨s, rfl, h⟩
  · have bm : aB (Int32.ofNat m) 32 := aB_of (by omega) (by omega)
    rw [if_neg (fun q => by have := (nle_iff (a := 32) (by omega) (by omega)).mp q; omega), if_pos bm]
    simp only [nx_eq]
    have e1 : sI (wI s 114 (jN (Int32.ofNat m)) x1) 113 3 = Int32.ofNat m := by rw [sI_wI, if_neg (by omega)]; exact m2
    rw [e1, if_pos bm]
    have e2 : sI (wI (wI s 114 (jN (Int32.ofNat m)) x1) 115 (jN (Int32.ofNat m)) x2) 113 3 = Int32.ofNat m := by rw [sI_wI, if_neg (by omega)]; exact e1
    rw [e2, if_pos bm]
    have e3 : sI (wI (wI (wI s 114 (jN (Int32.ofNat m)) x1) 115 (jN (Int32.ofNat m)) x2) 116 (jN (Int32.ofNat m)) x3) 113 3 = Int32.ofNat m := by rw [sI_wI, if_neg (by omega)]; exact e2
    rw [e3, ofNat_succ (by omega)]
    exact ⟨_, rfl, KW.o (h.f hb ((((ch.refl _ s).wI (by unfold AF; omega)).wI (by unfold AF; omega)).wI (by unfold AF; omega))) hb (by omega)⟩
end KK
