/-! spaces and numbers, as the reference reads them -/
set_option maxRecDepth 100000 in
theorem cnt_y {p : Int32 → Prop} {t : List Int32} {i : Nat} {d : Int32} (h0 : ¬ p d) (h : p (t.getD i d)) : i < t.length ∧ cntF p (t.drop i) = cntF p (t.drop (i + 1)) + 1 := by
  by_cases hi : i < t.length
  · refine ⟨hi, ?_⟩
    rw [getD_in hi] at h
    rw [List.drop_eq_getElem_cons hi]
    show (if b01 (p t[i]) = 0 then 0 else cntF p (t.drop (i + 1)) + 1) = _
    rw [if_neg (fun q => b01_ne.mp q h)]
  · rw [getD_out (by omega)] at h
    exact absurd h h0
set_option maxRecDepth 100000 in
theorem cnt_n {p : Int32 → Prop} {t : List Int32} {i : Nat} {d : Int32} (h : ¬ p (t.getD i d)) : cntF p (t.drop i) = 0 := by
  by_cases hi : i < t.length
  · rw [getD_in hi] at h
    rw [List.drop_eq_getElem_cons hi]
    show (if b01 (p t[i]) = 0 then 0 else cntF p (t.drop (i + 1)) + 1) = _
    rw [if_pos (b01_ne.mpr h)]
  · rw [List.drop_eq_nil_of_le (by omega)]
    rfl
set_option maxRecDepth 100000 in
theorem cnt_b {p : Int32 → Prop} {t : List Int32} {i : Nat} : cntF p (t.drop i) ≤ t.length - i := by
  have := cntF_le p (t.drop i)
  rw [List.length_drop] at this
  exact this
set_option maxRecDepth 100000 in
theorem nle_iff {a b : Nat} (ha : a < 1000000) (hb : b < 1000000) : Int32.ofNat a ≤ Int32.ofNat b ↔ a ≤ b := by
  rw [iLe, iOfNat (by omega), iOfNat (by omega)]
  omega
set_option maxRecDepth 100000 in
theorem nlt_iff {a b : Nat} (ha : a < 1000000) (hb : b < 1000000) : Int32.ofNat a < Int32.ofNat b ↔ a < b := by
  rw [iLt, iOfNat (by omega), iOfNat (by omega)]
  omega
set_option maxRecDepth 100000 in
theorem neq_iff {a b : Nat} (ha : a < 1000000) (hb : b < 1000000) : Int32.ofNat a = Int32.ofNat b ↔ a = b := by
  rw [iEq, iOfNat (by omega), iOfNat (by omega)]
  omega
def spP (x : Int32) : Prop := x = 32
set_option maxRecDepth 100000 in
/-- behind the spaces -/
noncomputable def skS (t : List Int32) (i : Nat) : Nat := i + cntF spP (t.drop i)
set_option maxRecDepth 100000 in
theorem d184s {s : aS} {r : Nat → Int32} {t : List Int32} {k48 : Int32 → Int32 → Int32 → aS → Option (Int32 × aS)} {x1 x2 : Int32} {i n : Nat} (h : TX s r t) (hi : i < 1000) : dm184_53 k48 (n + 1) x1 x2 (wP s r i) = if t.getD i 0 = 32 then dm184_53 k48 n x1 x2 (wP s r (i + 1)) else if t.length ≤ i then dm184_74 k48 x1 x2 0 (wP s r i) else dm184_74 k48 x1 x2 1 (wP s r i) := by
  have := h.1
  rw [dm184_53, wP_at, rch h (by omega), h.len, ofNat_succ (by omega), wP_go]
  simp only [bu_some, nx_eq, nle_iff (show t.length < 1000000 by omega) (show i < 1000000 by omega)]
set_option maxRecDepth 100000 in
theorem d184p {s : aS} {r : Nat → Int32} {t : List Int32} {k48 : Int32 → Int32 → Int32 → aS → Option (Int32 × aS)} {x1 x2 : Int32} (h : TX s r t) : ∀ (m i n : Nat), t.length ≤ i + m → i ≤ 300 → m < n → dm184_53 k48 n x1 x2 (wP s r i) = if t.length ≤ skS t i then dm184_74 k48 x1 x2 0 (wP s r (skS t i)) else dm184_74 k48 x1 x2 1 (wP s r (skS t i)) := by
  have hl := h.1
  intro m
  induction m with
  | zero =>
    intro i n h1 h2 h3
    obtain ⟨n, rfl⟩ : ∃ q, n = q + 1 := ⟨n - 1, by omega⟩
    have c : ¬ t.getD i 0 = 32 := by rw [getD_out (by omega)]; decide
    rw [d184s h (by omega), if_neg c]
    unfold skS
    rw [cnt_n (p := spP) c]
    rfl
  | succ m ih =>
    intro i n h1 h2 h3
    obtain ⟨n, rfl⟩ : ∃ q, n = q + 1 := ⟨n - 1, by omega⟩
    rw [d184s h (by omega)]
    by_cases c : t.getD i 0 = 32
    · obtain ⟨g1, g2⟩ := cnt_y (p := spP) (d := 0) (by unfold spP; decide) c
      rw [if_pos c, ih (i + 1) n (by omega) (by omega) (by omega)]
      have e : skS t (i + 1) = skS t i := by unfold skS; omega
      rw [e]
    · rw [if_neg c]
      unfold skS
      rw [cnt_n (p := spP) c]
      rfl
set_option maxRecDepth 100000 in
/-- how many digits are there from i on -/
noncomputable def nd1 (t : List Int32) (i : Nat) : Nat := cntF isD (t.drop i)
set_option maxRecDepth 100000 in
theorem isD0 : ¬ isD 0 := by unfold isD; decide
set_option maxRecDepth 100000 in
theorem isDm : ¬ isD (-1) := by unfold isD; decide
set_option maxRecDepth 100000 in
theorem isD46 : ¬ isD 46 := by unfold isD; decide
set_option maxRecDepth 100000 in
theorem d199s {s : aS} {r : Nat → Int32} {t : List Int32} {x1 x3 : Int32} {i n c : Nat} (h : TX s r t) (hi : i < 1000) (hc : c < 1000) (hx : x3 = 0 ∨ x3 = 1) : dm199_7 (n + 1) x1 (Int32.ofNat c) x3 (wP s r i) = if b01 (isD (t.getD i 0)) = 0 then (if t.getD i 0 = 46 ∧ x3 = 0 then dm199_7 n x1 (Int32.ofNat c) 1 (wP s r (i + 1)) else dm199_52 x1 (Int32.ofNat c) (wP s r i)) else dm199_7 n x1 (Int32.ofNat (c + 1)) x3 (wP s r (i + 1)) := by
  have e1 := rch h (i := i) (j := i) (by omega)
  rw [dm199_7]
  unfold dm199_21 dm199_29 dm199_32 dm199_44
  simp only [wP_at, e1, bu_some, d196, nx_eq]
  rw [ofNat_succ (by omega), ofNat_succ (by omega), wP_go]
  by_cases d : isD (t.getD i 0)
  · have d0 : ¬ b01 (isD (t.getD i 0)) = 0 := fun q => b01_ne.mp q d
    have d46 : ¬ t.getD i 0 = 46 := fun q => isD46 (q ▸ d)
    rw [if_neg d0, if_neg d0, if_neg d46, if_neg d0, if_neg d0]
    rcases hx with rfl | rfl
    · rw [if_pos rfl]
    · rw [if_neg (by decide)]
  · have d0 : b01 (isD (t.getD i 0)) = 0 := b01_ne.mpr d
    rw [if_pos d0, if_pos d0]
    by_cases q : t.getD i 0 = 46
    · rw [if_pos q]
      rcases hx with rfl | rfl
      · rw [if_pos rfl, if_pos rfl, if_pos q, if_pos d0, if_pos ⟨q, rfl⟩]
      · rw [if_neg (by decide), if_pos d0, if_neg (fun z => absurd z.2 (by decide))]
    · rw [if_neg q, if_pos d0, if_neg (fun z => q z.1)]
set_option maxRecDepth 100000 in
theorem d199a {s : aS} {r : Nat → Int32} {t : List Int32} {x1 : Int32} (h : TX s r t) : ∀ (m i n c : Nat), t.length ≤ i + m → i ≤ 300 → c ≤ 300 + i → m < n → dm199_7 n x1 (Int32.ofNat c) 1 (wP s r i) = dm199_52 x1 (Int32.ofNat (c + nd1 t i)) (wP s r (i + nd1 t i)) := by
  have hl := h.1
  intro m
  induction m with
  | zero =>
    intro i n c h1 h2 h3 h4
    obtain ⟨n, rfl⟩ : ∃ q, n = q + 1 := ⟨n - 1, by omega⟩
    have g : ¬ isD (t.getD i 0) := by rw [getD_out (by omega)]; exact isD0
    rw [d199s h (by omega) (by omega) (Or.inr rfl), if_pos (b01_ne.mpr g), if_neg (fun z => absurd z.2 (by decide))]
    unfold nd1
    rw [cnt_n g]
    rfl
  | succ m ih =>
    intro i n c h1 h2 h3 h4
    obtain ⟨n, rfl⟩ : ∃ q, n = q + 1 := ⟨n - 1, by omega⟩
    rw [d199s h (by omega) (by omega) (Or.inr rfl)]
    by_cases g : isD (t.getD i 0)
    · obtain ⟨g1, g2⟩ := cnt_y isD0 g
      rw [if_neg (fun q => b01_ne.mp q g), ih (i + 1) n (c + 1) (by omega) (by omega) (by omega) (by omega)]
      have e : nd1 t i = nd1 t (i + 1) + 1 := g2
      rw [e, show c + 1 + nd1 t (i + 1) = c + (nd1 t (i + 1) + 1) by omega, show i + 1 + nd1 t (i + 1) = i + (nd1 t (i + 1) + 1) by omega]
    · rw [if_pos (b01_ne.mpr g), if_neg (fun z => absurd z.2 (by decide))]
      unfold nd1
      rw [cnt_n g]
      rfl
set_option maxRecDepth 100000 in
/-- digits with perhaps a dot: where they end, how many they are -/
noncomputable def nmE (t : List Int32) (i : Nat) : Nat := if t.getD (i + nd1 t i) 0 = 46 then i + nd1 t i + 1 + nd1 t (i + nd1 t i + 1) else i + nd1 t i
set_option maxRecDepth 100000 in
noncomputable def nmC (t : List Int32) (i : Nat) : Nat := if t.getD (i + nd1 t i) 0 = 46 then nd1 t i + nd1 t (i + nd1 t i + 1) else nd1 t i
set_option maxRecDepth 100000 in
theorem nd1_b (t : List Int32) (i : Nat) : nd1 t i ≤ t.length - i := cnt_b
set_option maxRecDepth 100000 in
theorem d199b {s : aS} {r : Nat → Int32} {t : List Int32} {x1 : Int32} (h : TX s r t) : ∀ (m i n c : Nat), t.length ≤ i + m → i ≤ 300 → c ≤ i → m + 1 < n → dm199_7 n x1 (Int32.ofNat c) 0 (wP s r i) = dm199_52 x1 (Int32.ofNat (c + nmC t i)) (wP s r (nmE t i)) := by
  have hl := h.1
  intro m
  induction m with
  | zero =>
    intro i n c h1 h2 h3 h4
    obtain ⟨n, rfl⟩ : ∃ q, n = q + 1 := ⟨n - 1, by omega⟩
    have g : ¬ isD (t.getD i 0) := by rw [getD_out (by omega)]; exact isD0
    have g2 : ¬ t.getD i 0 = 46 := by rw [getD_out (by omega)]; decide
    have e : nd1 t i = 0 := cnt_n g
    rw [d199s h (by omega) (by omega) (Or.inl rfl), if_pos (b01_ne.mpr g), if_neg (fun z => g2 z.1)]
    unfold nmC nmE
    rw [e, Nat.add_zero, if_neg g2, if_neg g2]
    rfl
  | succ m ih =>
    intro i n c h1 h2 h3 h4
    obtain ⟨n, rfl⟩ : ∃ q, n = q + 1 := ⟨n - 1, by omega⟩
    rw [d199s h (by omega) (by omega) (Or.inl rfl)]
    by_cases g : isD (t.getD i 0)
    · obtain ⟨g1, g2⟩ := cnt_y isD0 g
      have e : nd1 t i = nd1 t (i + 1) + 1 := g2
      rw [if_neg (fun q => b01_ne.mp q g), ih (i + 1) n (c + 1) (by omega) (by omega) (by omega) (by omega)]
      have e1 : nmE t (i + 1) = nmE t i := by
        unfold nmE
        rw [e, show i + (nd1 t (i + 1) + 1) = i + 1 + nd1 t (i + 1) by omega]
      have e2 : c + 1 + nmC t (i + 1) = c + nmC t i := by
        unfold nmC
        rw [e, show i + (nd1 t (i + 1) + 1) = i + 1 + nd1 t (i + 1) by omega]
        split <;> omega
      rw [e1, e2]
    · rw [if_pos (b01_ne.mpr g)]
      have e : nd1 t i = 0 := cnt_n g
      by_cases g2 : t.getD i 0 = 46
      · have gi := (cnt_y (p := fun x => x = 46) (d := 0) (by decide) g2).1
        rw [if_pos ⟨g2, rfl⟩, d199a h m (i + 1) n c (by omega) (by omega) (by omega) (by omega)]
        unfold nmC nmE
        simp only [e, Nat.add_zero, Nat.zero_add, if_pos g2]
      · rw [if_neg (fun z => g2 z.1)]
        unfold nmC nmE
        rw [e, Nat.add_zero, if_neg g2, if_neg g2]
        rfl
