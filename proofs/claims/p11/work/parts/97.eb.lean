/-! the reader of FormulaTrees: nodes put in, letters held and given -/
section KK
variable {s0 s : aS} {b i z9 : Nat} {t : List Int32} {ns : List (List Int32)}
set_option maxRecDepth 100000 in
theorem KW.row {w k : Nat} {v : Int32} (h : KW s0 s b i z9) (hb : b = 102 ∨ 149 ≤ b) (hw : w < 9) : KW s0 (wI s (b + 1) (11 * k + w) v) b i z9 := by
  obtain ⟨g1, g2, ⟨N, u, a1, a2, a3, a4, a5⟩, ⟨hd, b1, b2, b3⟩, ⟨m0, c1, c2⟩, o, d1, d2⟩ := h
  have g : ch (fun a q => a = b + 1 ∧ q = 11 * k + w) s (wI s (b + 1) (11 * k + w) v) := (ch.refl _ s).wI ⟨rfl, rfl⟩
  refine ⟨g1.wI (by unfold AC; omega), (g.i (by omega)).trans g2, ⟨N, u, a1, (g.i (by omega)).trans a2, a3.of g (by omega) (fun k => by omega), a4, fun q hq => ?_⟩, ⟨hd, b1.of g (by omega) (fun k => by omega), b2, b3⟩, ⟨m0, c1, (g.i (by omega)).trans c2⟩, o, d1, (g.i (by omega)).trans d2⟩
  obtain ⟨l, ⟨st, e1, e2, e3, e4⟩, e5⟩ := a5 q hq
  exact ⟨l, ⟨st, (g.i (by omega)).trans e1, (g.i (by omega)).trans e2, e3, e4⟩, e5⟩
set_option maxRecDepth 100000 in
theorem k60 (h : KW s0 s b i z9) (hb : b = 102 ∨ 149 ≤ b) (x v : Int32) (w : Nat) (hw : w < 9) : ∃ s', dm60 b x (Int32.ofNat w) v s = some s' ∧ KW s0 s' b i z9 ∧ ch (fun a _ => a = b ∨ a = b + 1) s s' := by
  obtain ⟨-, -, ⟨N, u, a1, a2, -⟩, -⟩ := id h
  unfold dm60
  by_cases c1 : x < 0
  · rw [if_pos c1]
    exact ⟨s, rfl, h, ch.refl _ s⟩
  · rw [if_neg c1, a2]
    by_cases c2 : Int32.ofNat N ≤ x
    · rw [if_pos c2]
      exact ⟨s, rfl, h, ch.refl _ s⟩
    · have z1 : ¬ x.toInt < 0 := fun q => c1 (iLt.mpr q)
      have z2 : ¬ (N : Int) ≤ x.toInt := fun q => c2 (iLe.mpr (by rw [iOfNat (by omega)]; exact q))
      obtain ⟨k, hk⟩ : ∃ k, k = x.toInt.toNat := ⟨_, rfl⟩
      have ex : x = Int32.ofNat k := by rw [hk]; exact ofNat_of (by omega)
      rw [if_neg c2, if_neg (fun q => by have := (nlt_iff (b := 0) (by omega) (by omega)).mp q; omega), if_neg (fun q => by have := (nle_iff (a := 11) (by omega) (by omega)).mp q; omega), ex, iM11 (by omega) (by omega), if_pos (aB_of (by omega) (by omega)), nx_eq, jN_of (by omega)]
      exact ⟨_, rfl, h.row hb hw, (ch.refl _ s).wI (Or.inr rfl)⟩
set_option maxRecDepth 100000 in
theorem mul11 {p : Nat} (hp : p < 10000) : Int32.ofNat p * 11 = Int32.ofNat (11 * p) := by
  have := iM11 (i := p) (w := 0) (by omega) (by omega)
  rw [show Int32.ofNat 0 = 0 from rfl, Int32.add_zero] at this
  exact this
set_option maxRecDepth 100000 in
theorem k72l {b p N : Nat} {x2 x3 : Int32} (hp : p ≤ N) (hN : N < 128) : ∀ (m n : Nat) (s : aS), 11 * p + m ≤ 11 * N → m < n → ∃ s', (dm72_17 n b (Int32.ofNat p) x2 x3 (Int32.ofNat (11 * p + m) - 1) s = (nx (wI s' b 2 ((sI s' b 2) + 1)) fun s2 => bu (dm59 b (Int32.ofNat p) x2 x3 s2) fun s8 => some s8)) ∧ (∀ j, 11 * p ≤ j → j < 11 * p + m → sI s' (b + 1) (j + 11) = sI s (b + 1) j) ∧ ch (fun a k => a = b + 1 ∧ 11 * p + 11 ≤ k ∧ k < 11 * p + m + 11) s s' := by
  intro m
  induction m with
  | zero =>
    intro n s h1 h2
    obtain ⟨n, rfl⟩ : ∃ q, n = q + 1 := ⟨n - 1, by omega⟩
    refine ⟨s, ?_, fun j a c => by omega, ch.refl _ s⟩
    rw [dm72_17, mul11 (by omega)]
    have c : Int32.ofNat (11 * p + 0) - 1 < Int32.ofNat (11 * p) := by
      have e1 : (Int32.ofNat (11 * p + 0) - 1).toInt = 11 * p - 1 := by
        rw [iSub (y := 1) (by rw [iOfNat (by omega)]; show _ ≤ ((11 * p + 0 : Nat) : Int) - 1; omega) (by rw [iOfNat (by omega)]; show ((11 * p + 0 : Nat) : Int) - 1 ≤ _; omega), iOfNat (by omega)]
        show ((11 * p + 0 : Nat) : Int) - 1 = _
        omega
      rw [iLt, e1, iOfNat (by omega)]
      omega
    rw [if_pos c]
  | succ m ih =>
    intro n s h1 h2
    obtain ⟨n, rfl⟩ : ∃ q, n = q + 1 := ⟨n - 1, by omega⟩
    have e1 : Int32.ofNat (11 * p + (m + 1)) - 1 = Int32.ofNat (11 * p + m) := by
      have := ofNat_sub1 (n := 11 * p + (m + 1)) (by omega) (by omega)
      rw [this]
      congr 1
    have b1 : aB (Int32.ofNat (11 * p + m)) 1408 := aB_of (by omega) (by omega)
    have e2 : Int32.ofNat (11 * p + m) + 11 = Int32.ofNat (11 * p + m + 11) := iSum (i := 11 * p + m) (j := 11) (by omega) (by omega)
    have b2 : aB (Int32.ofNat (11 * p + m + 11)) 1408 := aB_of (by omega) (by omega)
    have e3 : Int32.ofNat (11 * p + m) + (-1) = Int32.ofNat (11 * p + m) - 1 := by rw [Int32.sub_eq_add_neg]
    obtain ⟨s', a1, a2, a3⟩ := ih n (wI s (b + 1) (11 * p + m + 11) (sI s (b + 1) (11 * p + m))) (by omega) (by omega)
    refine ⟨s', ?_, fun j hj1 hj2 => ?_, ((ch.refl (fun a k => a = b + 1 ∧ 11 * p + 11 ≤ k ∧ k < 11 * p + (m + 1) + 11) s).wI ⟨rfl, by omega, by omega⟩).trans (a3.mono fun a k z => by omega)⟩
    · rw [dm72_17, mul11 (by omega), e1, if_neg (fun q => by have := (nlt_iff (by omega) (by omega)).mp q; omega), if_pos b1, e2, if_pos b2, nx_eq, jN_of (by omega), jN_of (by omega), e3]
      exact a1
    · by_cases c : j = 11 * p + m
      · subst c
        rw [a3.i (by omega), sI_wI, if_pos ⟨rfl, rfl⟩]
      · have := a2 j hj1 (by omega)
        rw [this, sI_wI, if_neg (by omega)]
set_option maxRecDepth 100000 in
/-- a node put in -/
theorem k72 (h : KW s0 s b i z9) (hb : b = 102 ∨ 149 ≤ b) (x x2 x3 : Int32) : ∃ s', dm72 b x x2 x3 s = some s' ∧ KW s0 s' b i z9 ∧ ch (fun a _ => a = b ∨ a = b + 1) s s' := by
  obtain ⟨g1, g2, ⟨N, u, a1, a2, a3, a4, a5⟩, ⟨hd, b1, b2, b3⟩, ⟨m0, c1, c2⟩, o, d1, d2⟩ := id h
  unfold dm72 dm71
  rw [a2]
  by_cases c0 : N = 128
  · subst c0
    rw [if_neg (by decide)]
    simp only [bu_some]
    rw [if_neg (by decide)]
    exact ⟨s, rfl, h, ch.refl _ s⟩
  · rw [if_pos (show Int32.ofNat N < 128 from (nlt_iff (b := 128) (by omega) (by omega)).mpr (by omega))]
    simp only [bu_some]
    rw [if_pos trivial]
    by_cases q1 : x < 0
    · rw [if_pos q1]
      exact ⟨s, rfl, h, ch.refl _ s⟩
    · rw [if_neg q1]
      by_cases q2 : x ≤ Int32.ofNat N
      · rw [if_pos q2]
        have z1 : ¬ x.toInt < 0 := fun q => q1 (iLt.mpr q)
        have z2 : x.toInt ≤ N := by
          have := iLe.mp q2
          rw [iOfNat (by omega)] at this
          exact this
        obtain ⟨p, hp⟩ : ∃ p, p = x.toInt.toNat := ⟨_, rfl⟩
        have ex : x = Int32.ofNat p := by rw [hp]; exact ofNat_of (by omega)
        have hpN : p ≤ N := by omega
        obtain ⟨s1, l1, l2, l3⟩ := k72l (b := b) (x2 := x2) (x3 := x3) hpN (show N < 128 by omega) (11 * N - 11 * p) 5000 s (by omega) (by omega)
        rw [show 11 * p + (11 * N - 11 * p) = 11 * N by omega] at l1 l2 l3
        have e1 : sI s1 b 2 = Int32.ofNat N := (l3.i (by omega)).trans a2
        have h2 : sI (wI s1 b 2 (Int32.ofNat (N + 1))) b 2 = Int32.ofNat (N + 1) := by rw [sI_wI, if_pos ⟨rfl, rfl⟩]
        obtain ⟨s2, m1, m2, m3⟩ := d59 (k := x2) (c := x3) h2 (show N + 1 ≤ 128 by omega) (show p < N + 1 by omega)
        have cc : ch (fun a k => (a = b ∧ k = 2) ∨ a = b + 1) s s2 := ((l3.mono fun a k z => Or.inr z.1).wI (Or.inl ⟨rfl, rfl⟩)).trans (m3.mono fun a k z => Or.inr z.1)
        refine ⟨s2, ?_, ⟨g1.trans (cc.mono fun a k z => by unfold AC; omega), (cc.i (by omega)).trans g2, ⟨N + 1, u, by omega, ?_, a3.of cc (by omega) (fun k => by omega), a4, fun k hk => ?_⟩, ⟨hd, b1.of cc (by omega) (fun k => by omega), b2, b3⟩, ⟨m0, c1, (cc.i (by omega)).trans c2⟩, o, d1, (cc.i (by omega)).trans d2⟩, cc.mono fun a k z => by omega⟩
        · rw [ex, mul11 (by omega), l1, e1, ofNat_succ (by omega), nx_eq, m1]
          rfl
        · rw [m3.i (by omega)]
          exact h2
        · by_cases k1 : k = p
          · subst k1
            exact ⟨[], ⟨0, m2 9 (by decide), m2 10 (by decide), Nat.zero_le _, fun j hj => absurd hj (Nat.not_lt_zero j)⟩, fun y hy => (by cases hy)⟩
          · by_cases k2 : k < p
            · obtain ⟨l, ⟨st, r1, r2, r3, r4⟩, r5⟩ := a5 k (by omega)
              refine ⟨l, ⟨st, ?_, ?_, r3, r4⟩, r5⟩
              · rw [m3.i (by omega), sI_wI, if_neg (by omega), l3.i (by omega)]
                exact r1
              · rw [m3.i (by omega), sI_wI, if_neg (by omega), l3.i (by omega)]
                exact r2
            · obtain ⟨l, ⟨st, r1, r2, r3, r4⟩, r5⟩ := a5 (k - 1) (by omega)
              refine ⟨l, ⟨st, ?_, ?_, r3, r4⟩, r5⟩
              · rw [m3.i (by omega), sI_wI, if_neg (by omega), show 11 * k + 9 = (11 * (k - 1) + 9) + 11 by omega, l2 _ (by omega) (by omega)]
                exact r1
              · rw [m3.i (by omega), sI_wI, if_neg (by omega), show 11 * k + 10 = (11 * (k - 1) + 10) + 11 by omega, l2 _ (by omega) (by omega)]
                exact r2
      · rw [if_neg q2]
        exact ⟨s, rfl, h, ch.refl _ s⟩
/-- the letters that are held -/
def HH (s : aS) (hd : List Int32) : Prop := LT s 107 hd ∧ hd.length ≤ 256 ∧ okT hd
set_option maxRecDepth 100000 in
theorem KW.h {s1 : aS} {hd : List Int32} (h : KW s0 s b i z9) (hb : b = 102 ∨ 149 ≤ b) (g : ch (fun a k => (a = 107 ∧ k = 1) ∨ a = 108) s s1) (hh : HH s1 hd) : KW s0 s1 b i z9 := by
  obtain ⟨g1, g2, ⟨N, u, a1, a2, a3, a4, a5⟩, -, ⟨m0, c1, c2⟩, o, d1, d2⟩ := h
  refine ⟨g1.trans (g.mono fun a k z => by unfold AC; omega), (g.i (by omega)).trans g2, ⟨N, u, a1, (g.i (by omega)).trans a2, a3.of g (by omega) (fun k => by omega), a4, fun q hq => ?_⟩, ⟨hd, hh⟩, ⟨m0, c1, (g.i (by omega)).trans c2⟩, o, d1, (g.i (by omega)).trans d2⟩
  obtain ⟨l, ⟨st, e1, e2, e3, e4⟩, e5⟩ := a5 q hq
  exact ⟨l, ⟨st, (g.i (by omega)).trans e1, (g.i (by omega)).trans e2, e3, e4⟩, e5⟩
set_option maxRecDepth 100000 in
theorem kHadd {hd : List Int32} {x : Int32} (h0 : KS s0 b t ns) (h : KW s0 s b i z9) (hh : HH s hd) (hl : hd.length < 256) (hx : 32 ≤ x.toInt ∧ x.toInt ≤ 126) : ∃ s', dm29 107 x s = some s' ∧ KW s0 s' b i z9 ∧ HH s' (hd ++ [x]) := by
  have hb := h0.2.1.2.2.1
  have hs := h0.of h.1
  obtain ⟨s', a1, a2, a3⟩ := hh.1.add (m := 256) hs.2.1.2.2.2.2 (by decide) hl (x := x) ⟨by omega, by omega⟩
  have hh2 : HH s' (hd ++ [x]) := ⟨a2, by rw [List.length_append]; show hd.length + 1 ≤ 256; omega, fun y hy => by
    rcases List.mem_append.mp hy with q | q
    · exact hh.2.2 y q
    · rw [List.mem_singleton.mp q]; exact hx⟩
  exact ⟨s', a1, h.h hb a3 hh2, hh2⟩
set_option maxRecDepth 100000 in
theorem kHclr (h0 : KS s0 b t ns) (h : KW s0 s b i z9) : ∃ s', dm26 107 s = some s' ∧ KW s0 s' b i z9 ∧ HH s' [] := by
  have hb := h0.2.1.2.2.1
  have hh2 : HH (wI s 107 1 0) [] := ⟨⟨by rw [sI_wI, if_pos ⟨rfl, rfl⟩]; rfl, fun j hj => absurd hj (Nat.not_lt_zero j)⟩, Nat.zero_le _, fun y hy => (by cases hy)⟩
  exact ⟨wI s 107 1 0, rfl, h.h hb ((ch.refl _ s).wI (Or.inl ⟨rfl, rfl⟩)) hh2, hh2⟩
set_option maxRecDepth 100000 in
theorem okc {j : Nat} (ho : okT t) (hj : j < t.length) : 32 ≤ (t.getD j (-1)).toInt ∧ (t.getD j (-1)).toInt ≤ 126 := by
  rw [getD_in hj]
  exact ho _ (List.getElem_mem _)
set_option maxRecDepth 100000 in
theorem okg {x : Int32} (h : 32 ≤ x.toInt ∧ x.toInt ≤ 126) : 32 ≤ (gr x).toInt ∧ (gr x).toInt ≤ 126 := by
  have := okT_gr (l := [x]) (fun y hy => by rw [List.mem_singleton.mp hy]; exact h)
  exact this (gr x) (by simp)
set_option maxRecDepth 100000 in
theorem k122 {f e : Nat} (h0 : KS s0 b t ns) (h : KW s0 s b i z9) (hf : f ≤ e) (he : e ≤ t.length) : ∃ s' hd, dm122 (Int32.ofNat f) (Int32.ofNat e) s = some s' ∧ KW s0 s' b i z9 ∧ HH s' hd ∧ hd.length = e - f := by
  have hl := h0.1.2.1
  have ho := h0.1.2.2.1
  have loop : ∀ (m j n : Nat) (s : aS) (hd : List Int32), KW s0 s b i z9 → HH s hd → hd.length + m ≤ 256 → j + m = e → m < n → ∃ s' hd', dm122_5 n (Int32.ofNat e) (Int32.ofNat j) s = some s' ∧ KW s0 s' b i z9 ∧ HH s' hd' ∧ hd'.length = hd.length + m := by
    intro m
    induction m with
    | zero =>
      intro j n s hd h hh h1 h2 h3
      obtain ⟨n, rfl⟩ : ∃ q, n = q + 1 := ⟨n - 1, by omega⟩
      rw [dm122_5, if_pos ((nle_iff (by omega) (by omega)).mpr (by omega))]
      exact ⟨s, hd, rfl, h, hh, rfl⟩
    | succ m ih =>
      intro j n s hd h hh h1 h2 h3
      obtain ⟨n, rfl⟩ : ∃ q, n = q + 1 := ⟨n - 1, by omega⟩
      rw [dm122_5, if_neg (fun q => by have := (nle_iff (by omega) (by omega)).mp q; omega), kch h0 h (by omega)]
      simp only [bu_some, d35]
      obtain ⟨s1, a1, a2, a3⟩ := kHadd h0 h hh (by omega) (okg (okc ho (show j < t.length by omega)))
      rw [a1]
      simp only [bu_some]
      rw [ofNat_succ (by omega)]
      obtain ⟨s2, hd2, c1, c2, c3, c4⟩ := ih (j + 1) n s1 _ a2 a3 (by rw [List.length_append]; show hd.length + 1 + m ≤ 256; omega) (by omega) (by omega)
      refine ⟨s2, hd2, c1, c2, c3, ?_⟩
      rw [c4, List.length_append]
      show hd.length + 1 + m = _
      omega
  unfold dm122
  obtain ⟨s1, a1, a2, a3⟩ := kHclr h0 h
  rw [a1]
  simp only [bu_some]
  obtain ⟨s2, hd2, c1, c2, c3, c4⟩ := loop (e - f) f 5000 s1 [] a2 a3 (by simp; omega) (by omega) (by omega)
  exact ⟨s2, hd2, c1, c2, c3, by rw [c4]; simp⟩
set_option maxRecDepth 100000 in
/-- letters given to a node -/
theorem k107 {hd : List Int32} (h0 : KS s0 b t ns) (h : KW s0 s b i z9) (hh : HH s hd) (hz : z9 + hd.length ≤ 256) (x : Int32) : ∃ s', dm107 b x 107 s = some s' ∧ KW s0 s' b i (z9 + hd.length) := by
  have hb := h0.2.1.2.2.1
  obtain ⟨g1, g2, ⟨N, u, a1, a2, a3, a4, a5⟩, -, ⟨m0, c1, c2⟩, o, d1, d2⟩ := id h
  have h3 : (sT s (b + 3)).2 = 256 := (h0.of g1).2.1.2.2.2.1
  have hul := a3.2.1
  -- the two numbers
  have puts : ∃ s2, (bu (dm60 b x 9 (Int32.ofNat u.length) s) fun s6 => bu (dm28 107 s6) fun r11 => bu (dm60 b x 10 r11 s6) fun s14 => dm107_15 5000 b 107 0 s14) = dm107_15 5000 b 107 0 s2 ∧ ch (fun a k => a = b + 1) s s2 ∧ ∀ k, k < N → (∃ l, NL s2 b k u l ∧ okT l) ∨ (sI s2 (b + 1) (11 * k + 9) = Int32.ofNat u.length ∧ sI s2 (b + 1) (11 * k + 10) = Int32.ofNat hd.length) := by
    unfold dm60
    by_cases q1 : x < 0
    · rw [if_pos q1]
      unfold dm28
      simp only [bu_some]
      rw [if_pos q1]
      exact ⟨s, rfl, ch.refl _ s, fun k hk => Or.inl (a5 k hk)⟩
    · rw [if_neg q1, a2]
      by_cases q2 : Int32.ofNat N ≤ x
      · rw [if_pos q2]
        unfold dm28
        simp only [bu_some]
        rw [if_neg q1, a2, if_pos q2]
        exact ⟨s, rfl, ch.refl _ s, fun k hk => Or.inl (a5 k hk)⟩
      · have z1 : ¬ x.toInt < 0 := fun q => q1 (iLt.mpr q)
        have z2 : ¬ (N : Int) ≤ x.toInt := fun q => q2 (iLe.mpr (by rw [iOfNat (by omega)]; exact q))
        obtain ⟨p, hp⟩ : ∃ p, p = x.toInt.toNat := ⟨_, rfl⟩
        have ex : x = Int32.ofNat p := by rw [hp]; exact ofNat_of (by omega)
        have e9 : (Int32.ofNat p * 11) + 9 = Int32.ofNat (11 * p + 9) := iM11 (i := p) (w := 9) (by omega) (by omega)
        have e10 : (Int32.ofNat p * 11) + 10 = Int32.ofNat (11 * p + 10) := iM11 (i := p) (w := 10) (by omega) (by omega)
        rw [if_neg q2, if_neg (by decide), if_neg (by decide), ex, e9, if_pos (aB_of (by omega) (by omega)), nx_eq, jN_of (by omega)]
        unfold dm28
        simp only [bu_some]
        rw [← ex, if_neg q1, show sI (wI s (b + 1) (11 * p + 9) (Int32.ofNat u.length)) b 2 = sI s b 2 by rw [sI_wI, if_neg (by omega)], a2, if_neg q2, if_neg (by decide), if_neg (by decide), ex, e10, if_pos (aB_of (by omega) (by omega)), nx_eq, jN_of (by omega), show sI (wI s (b + 1) (11 * p + 9) (Int32.ofNat u.length)) 107 1 = sI s 107 1 by rw [sI_wI, if_neg (by omega)], hh.1.n]
        simp only [bu_some]
        refine ⟨_, rfl, ((ch.refl (fun a _ => a = b + 1) s).wI rfl).wI rfl, fun k hk => ?_⟩
        by_cases kp : k = p
        · right
          subst kp
          constructor
          · rw [sI_wI, if_neg (by omega), sI_wI, if_pos ⟨rfl, rfl⟩]
          · rw [sI_wI, if_pos ⟨rfl, rfl⟩]
        · left
          obtain ⟨l, ⟨st, r1, r2, r3, r4⟩, r5⟩ := a5 k hk
          refine ⟨l, ⟨st, ?_, ?_, r3, r4⟩, r5⟩
          · rw [sI_wI, if_neg (by omega), sI_wI, if_neg (by omega)]
            exact r1
          · rw [sI_wI, if_neg (by omega), sI_wI, if_neg (by omega)]
            exact r2
  obtain ⟨s2, e2, ch2, rows⟩ := puts
  have loop : ∀ (m j n : Nat) (s3 : aS), ch (fun a k => a = b + 1 ∨ (a = b + 2 ∧ k = 1) ∨ a = b + 3) s s3 → LT s3 (b + 2) (u ++ hd.take j) → j + m = hd.length → m < n → ∃ s4, dm107_15 n b 107 (Int32.ofNat j) s3 = some s4 ∧ LT s4 (b + 2) (u ++ hd) ∧ ch (fun a k => (a = b + 2 ∧ k = 1) ∨ a = b + 3) s3 s4 := by
    intro m
    induction m with
    | zero =>
      intro j n s3 c3 l3 h1 h2
      obtain ⟨n, rfl⟩ : ∃ q, n = q + 1 := ⟨n - 1, by omega⟩
      have e1 : sI s3 107 1 = Int32.ofNat hd.length := (c3.i (by omega)).trans hh.1.n
      have hhl := hh.2.1
      rw [dm107_15]
      unfold dm28
      simp only [bu_some]
      rw [e1, if_pos ((nle_iff (by omega) (by omega)).mpr (by omega))]
      rw [List.take_of_length_le (by omega)] at l3
      exact ⟨s3, rfl, l3, ch.refl _ s3⟩
    | succ m ih =>
      intro j n s3 c3 l3 h1 h2
      obtain ⟨n, rfl⟩ : ∃ q, n = q + 1 := ⟨n - 1, by omega⟩
      have e1 : LT s3 107 hd := hh.1.of c3 (by omega) (fun k => by omega)
      have hhl := hh.2.1
      have hj : j < hd.length := by omega
      have hT : (sT s3 108).2 = 256 := by rw [c3.2.1]; exact (h0.of g1).2.1.2.2.2.2
      rw [dm107_15]
      unfold dm28
      simp only [bu_some]
      rw [e1.n, if_neg (fun q => by have := (nle_iff (by omega) (by omega)).mp q; omega), d34 e1 (by rw [hT]; exact hhl) (by omega) (by omega), getD_in hj]
      simp only [bu_some]
      have hxo := hh.2.2 hd[j] (List.getElem_mem hj)
      have hlen : (u ++ hd.take j).length < 256 := by rw [List.length_append, List.length_take]; omega
      obtain ⟨s4, f1, f2, f3⟩ := l3.add (m := 256) (by rw [c3.2.1]; exact h3) (by decide) hlen (x := hd[j]) ⟨by omega, by omega⟩
      rw [f1]
      simp only [bu_some]
      rw [ofNat_succ (by omega)]
      have l4 : LT s4 (b + 2) (u ++ hd.take (j + 1)) := by
        rw [List.take_succ_eq_append_getElem hj, ← List.append_assoc]
        exact f2
      obtain ⟨s5, k1, k2, k3⟩ := ih (j + 1) n s4 (c3.trans (f3.mono fun a k z => by omega)) l4 (by omega) (by omega)
      exact ⟨s5, k1, k2, (f3.mono fun a k z => by omega).trans k3⟩
  have hhl := hh.2.1
  obtain ⟨s4, l1, l2, l3⟩ := loop hd.length 0 5000 s2 (ch2.mono fun a k z => Or.inl z) (by rw [List.take_zero, List.append_nil]; exact a3.1.of ch2 (by omega) (fun k => by omega)) (by omega) (by omega)
  have cc : ch (fun a k => a = b + 1 ∨ (a = b + 2 ∧ k = 1) ∨ a = b + 3) s s4 := (ch2.mono fun a k z => Or.inl z).trans (l3.mono fun a k z => Or.inr z)
  refine ⟨s4, ?_, g1.trans (cc.mono fun a k z => by unfold AC; omega), (cc.i (by omega)).trans g2, ⟨N, u ++ hd, a1, (cc.i (by omega)).trans a2, ⟨l2, by rw [List.length_append]; omega, fun y hy => ?_⟩, by rw [List.length_append]; omega, fun k hk => ?_⟩, ⟨hd, hh.1.of cc (by omega) (fun k => by omega), hhl, hh.2.2⟩, ⟨m0, c1, (cc.i (by omega)).trans c2⟩, o, d1, (cc.i (by omega)).trans d2⟩
  · unfold dm107
    have : dm28 (b + 2) s = some (Int32.ofNat u.length) := by unfold dm28; rw [a3.1.n]
    rw [this]
    simp only [bu_some]
    rw [e2]
    exact l1
  · rcases List.mem_append.mp hy with q | q
    · exact a3.2.2 y q
    · exact hh.2.2 y q
  · rcases rows k hk with ⟨l, ⟨st, r1, r2, r3, r4⟩, r5⟩ | ⟨r1, r2⟩
    · refine ⟨l, ⟨st, (l3.i (by omega)).trans r1, (l3.i (by omega)).trans r2, by rw [List.length_append]; omega, fun j hj => ?_⟩, r5⟩
      have := r4 j hj
      rw [getD_in (show st + j < u.length by omega)] at this
      rw [getD_in (show st + j < (u ++ hd).length by rw [List.length_append]; omega), List.getElem_append_left (by omega)]
      exact this
    · refine ⟨hd, ⟨u.length, (l3.i (by omega)).trans r1, (l3.i (by omega)).trans r2, by rw [List.length_append]; omega, fun j hj => ?_⟩, hh.2.2⟩
      rw [getD_in (by rw [List.length_append]; omega), List.getElem_append_right (by omega)]
      simp
end KK
