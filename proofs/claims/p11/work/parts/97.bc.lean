/-! numbers to their ends, what stands in quotes, errors, as the reference reads them -/
set_option maxRecDepth 100000 in
theorem d186 {s : aS} {r : Nat → Int32} {i p : Nat} : dm186 (Int32.ofNat p) (wP s r i) = some (wP s (setN r 27 1) p) := by
  unfold dm186
  simp only [nx_eq]
  rw [wP_set (by decide), wP_go]
set_option maxRecDepth 100000 in
/-- exponent digits from i on: three at most -/
noncomputable def nd3 (t : List Int32) (i c : Nat) : Nat := if nd1 t i ≤ 3 - c then nd1 t i else 3 - c
set_option maxRecDepth 100000 in
theorem d199c {s : aS} {r : Nat → Int32} {t : List Int32} {x1 : Int32} (h : TX s r t) : ∀ (m i n c : Nat), c + m = 3 → i + m ≤ 900 → m < n → dm199_92 n x1 (Int32.ofNat c) (wP s r i) = dm199_109 x1 (Int32.ofNat (c + nd3 t i c)) (wP s r (i + nd3 t i c)) := by
  intro m
  induction m with
  | zero =>
    intro i n c h1 h2 h3
    obtain ⟨n, rfl⟩ : ∃ q, n = q + 1 := ⟨n - 1, by omega⟩
    have h1 : c = 3 := by omega
    subst h1
    have e : nd3 t i 3 = 0 := by unfold nd3; split <;> omega
    rw [dm199_92]
    simp only [wP_at, rch h (show i < 100000 by omega), bu_some, d196]
    rw [e, if_pos (show (3 : Int32) ≤ Int32.ofNat 3 by decide), ite_self]
    rfl
  | succ m ih =>
    intro i n c h1 h2 h3
    obtain ⟨n, rfl⟩ : ∃ q, n = q + 1 := ⟨n - 1, by omega⟩
    have hc : ¬ (3 : Int32) ≤ Int32.ofNat c := by
      rw [iLe, iOfNat (by omega)]
      show ¬ (3 : Int) ≤ c
      omega
    rw [dm199_92]
    simp only [wP_at, rch h (show i < 100000 by omega), bu_some, d196]
    rw [if_neg hc, nx_eq, ofNat_succ (by omega), ofNat_succ (by omega), wP_go]
    by_cases g : isD (t.getD i 0)
    · obtain ⟨g1, g2⟩ := cnt_y isD0 g
      have e : nd1 t i = nd1 t (i + 1) + 1 := g2
      rw [if_neg (fun q => b01_ne.mp q g), ih (i + 1) n (c + 1) (by omega) (by omega) (by omega)]
      have e3 : nd3 t i c = nd3 t (i + 1) (c + 1) + 1 := by
        unfold nd3
        rw [e]
        split <;> split <;> omega
      rw [e3, show c + 1 + nd3 t (i + 1) (c + 1) = c + (nd3 t (i + 1) (c + 1) + 1) by omega, show i + 1 + nd3 t (i + 1) (c + 1) = i + (nd3 t (i + 1) (c + 1) + 1) by omega]
    · rw [if_pos (b01_ne.mpr g)]
      have e : nd1 t i = 0 := cnt_n g
      have e3 : nd3 t i c = 0 := by
        unfold nd3
        rw [e, if_pos (by omega)]
      rw [e3]
      rfl
def sgP (x : Int32) : Prop := x = 43 ∨ x = 45
set_option maxRecDepth 100000 in
/-- where the digits of an exponent begin, whose E is at e -/
noncomputable def nmS (t : List Int32) (e : Nat) : Nat := if b01 (sgP (t.getD (e + 1) 0)) = 0 then e + 1 else e + 2
set_option maxRecDepth 100000 in
/-- a number that begins at i: whether it is one, and where it ends or is wrong -/
noncomputable def lexN (t : List Int32) (i : Nat) : Nat × Nat := if nmC t i = 0 then (0, nmE t i) else if gr (t.getD (nmE t i) 0) = 69 then (nd3 t (nmS t (nmE t i)) 0, nmS t (nmE t i) + nd3 t (nmS t (nmE t i)) 0) else (1, nmE t i)
set_option maxRecDepth 100000 in
theorem nmE_b {t : List Int32} {i : Nat} (hi : i ≤ t.length) : i ≤ nmE t i ∧ nmE t i ≤ t.length := by
  have h1 := nd1_b t i
  have h2 := nd1_b t (i + nd1 t i + 1)
  unfold nmE
  by_cases c : t.getD (i + nd1 t i) 0 = 46
  · rw [if_pos c]
    have : i + nd1 t i < t.length := by
      by_cases q : i + nd1 t i < t.length
      · exact q
      · rw [getD_out (by omega)] at c
        exact absurd c (by decide)
    omega
  · rw [if_neg c]
    omega
set_option maxRecDepth 100000 in
theorem d199 {s : aS} {r : Nat → Int32} {t : List Int32} {i : Nat} (h : TX s r t) (hi : i ≤ t.length) : dm199 (wP s r i) = if (lexN t i).1 = 0 then some (wP s (setN r 27 1) (lexN t i).2) else dm199_116 (Int32.ofNat i) (wP s r (lexN t i).2) := by
  have hl := h.1
  have hb := nmE_b hi
  have hc : nmC t i ≤ 600 := by
    have h1 := nd1_b t i
    have h2 := nd1_b t (i + nd1 t i + 1)
    unfold nmC
    split <;> omega
  unfold dm199
  have e0 : dm199_7 5000 (Int32.ofNat i) 0 0 (wP s r i) = _ := d199b (x1 := Int32.ofNat i) h t.length i 5000 0 (by omega) (by omega) (by omega) (by omega)
  rw [wP_at, e0, Nat.zero_add]
  unfold dm199_52 lexN
  simp only [wP_at, d186]
  by_cases c0 : nmC t i = 0
  · rw [if_pos (show Int32.ofNat (nmC t i) = 0 by rw [c0]; rfl), if_pos c0, if_pos rfl]
    rfl
  · rw [if_neg (show ¬ Int32.ofNat (nmC t i) = 0 from fun q => c0 ((neq_iff (b := 0) (by omega) (by omega)).mp q)), if_neg c0, rch h (by omega)]
    simp only [bu_some, d178]
    by_cases c1 : gr (t.getD (nmE t i) 0) = 69
    · rw [if_pos c1, if_pos c1, nx_eq, ofNat_succ (by omega), wP_go]
      simp only [wP_at, rch h (show nmE t i + 1 < 100000 by omega), bu_some]
      have key : (if t.getD (nmE t i + 1) 0 = 43 then dm199_84 (Int32.ofNat i) (wP s r (nmE t i + 1)) else if t.getD (nmE t i + 1) 0 = 45 then dm199_84 (Int32.ofNat i) (wP s r (nmE t i + 1)) else dm199_90 (Int32.ofNat i) (wP s r (nmE t i + 1))) = dm199_90 (Int32.ofNat i) (wP s r (nmS t (nmE t i))) := by
        unfold dm199_84 nmS
        rw [wP_at, ofNat_succ (by omega), wP_go, nx_eq]
        by_cases a : t.getD (nmE t i + 1) 0 = 43
        · rw [if_pos a, if_neg (fun q => b01_ne.mp q (show sgP _ from Or.inl a))]
        · rw [if_neg a]
          by_cases b : t.getD (nmE t i + 1) 0 = 45
          · rw [if_pos b, if_neg (fun q => b01_ne.mp q (show sgP _ from Or.inr b))]
          · rw [if_neg b, if_pos (b01_ne.mpr (by rintro (q | q); exact a q; exact b q))]
      rw [key]
      have hs : nmS t (nmE t i) ≤ 300 := by unfold nmS; split <;> omega
      unfold dm199_90
      have e3 : dm199_92 5000 (Int32.ofNat i) 0 (wP s r (nmS t (nmE t i))) = _ := d199c (x1 := Int32.ofNat i) h 3 (nmS t (nmE t i)) 5000 0 (by omega) (by omega) (by omega)
      rw [e3, Nat.zero_add]
      unfold dm199_109
      simp only [wP_at, d186]
      have h3 : nd3 t (nmS t (nmE t i)) 0 ≤ 3 := by unfold nd3; split <;> omega
      by_cases c2 : nd3 t (nmS t (nmE t i)) 0 = 0
      · rw [c2, if_pos (show Int32.ofNat 0 = 0 from rfl)]
        rfl
      · rw [if_neg (show ¬ Int32.ofNat (nd3 t (nmS t (nmE t i)) 0) = 0 from fun q => c2 ((neq_iff (b := 0) (by omega) (by omega)).mp q)), if_neg c2]
    · rw [if_neg c1, if_neg c1, if_neg (show ¬ (1 : Nat) = 0 by decide)]
