/-! words that could be cells or truths, as the reference reads them -/
set_option maxRecDepth 100000 in
theorem tx_at {s : aS} {r : Nat → Int32} {t : List Int32} {k j : Nat} (h : TX s r t) (hj : j < t.length) : sI (wP s r k) 122 j = t.getD j 0 := by
  rw [wP_n (by decide), h.2.2 j hj, getD_in hj]
set_option maxRecDepth 100000 in
noncomputable def lo (t : List Int32) (i e : Nat) : Nat := if cntF isL (t.drop i) ≤ e - i then cntF isL (t.drop i) else e - i
set_option maxRecDepth 100000 in
theorem d212l {s : aS} {r : Nat → Int32} {t : List Int32} {i e k : Nat} (h : TX s r t) (he : e ≤ t.length) : ∀ (m j n : Nat), i + j + m = e → m < n → dm212_2 n (Int32.ofNat i) (Int32.ofNat e) (Int32.ofNat j) (wP s r k) = some (Int32.ofNat (j + lo t (i + j) e)) := by
  have hl := h.1
  intro m
  induction m with
  | zero =>
    intro j n h1 h2
    obtain ⟨n, rfl⟩ : ∃ q, n = q + 1 := ⟨n - 1, by omega⟩
    have e0 : lo t (i + j) e = 0 := by unfold lo; split <;> omega
    rw [dm212_2, iSum (by omega) (by omega), if_pos ((nle_iff (by omega) (by omega)).mpr (by omega)), e0]
    rfl
  | succ m ih =>
    intro j n h1 h2
    obtain ⟨n, rfl⟩ : ∃ q, n = q + 1 := ⟨n - 1, by omega⟩
    rw [dm212_2, iSum (by omega) (by omega), if_neg (fun q => by have := (nle_iff (by omega) (by omega)).mp q; omega), if_pos (by rw [aB_iff, iOfNat (by omega)]; omega), jN_of (by omega), tx_at h (by omega), d198]
    simp only [bu_some]
    by_cases g : isL (t.getD (i + j) 0)
    · obtain ⟨g1, g2⟩ := cnt_y isL0 g
      rw [if_neg (fun q => b01_ne.mp q g), ofNat_succ (by omega), ih (j + 1) n (by omega) (by omega)]
      have e1 : lo t (i + j) e = lo t (i + (j + 1)) e + 1 := by
        unfold lo
        rw [g2, show i + (j + 1) = i + j + 1 by omega]
        split <;> split <;> omega
      rw [e1, show j + 1 + lo t (i + (j + 1)) e = j + (lo t (i + (j + 1)) e + 1) by omega]
    · have e1 : lo t (i + j) e = 0 := by
        unfold lo
        rw [cnt_n g, if_pos (by omega)]
      rw [if_pos (b01_ne.mpr g), e1]
      rfl
set_option maxRecDepth 100000 in
theorem d212 {s : aS} {r : Nat → Int32} {t : List Int32} {i e k : Nat} (h : TX s r t) (hi : i ≤ e) (he : e ≤ t.length) : dm212 (Int32.ofNat i) (Int32.ofNat e) (wP s r k) = some (Int32.ofNat (lo t i e)) := by
  have hl := h.1
  have := d212l (k := k) (i := i) h he (e - i) 0 5000 (by omega) (by omega)
  unfold dm212
  rw [show (0 : Int32) = Int32.ofNat 0 from rfl, this, Nat.zero_add]
  rfl
set_option maxRecDepth 100000 in
theorem lo_b (t : List Int32) (i e : Nat) : lo t i e ≤ e - i := by
  unfold lo
  split <;> omega
set_option maxRecDepth 100000 in
theorem cnt_is {p : Int32 → Prop} {t : List Int32} (d : Int32) : ∀ (m i q : Nat), t.length ≤ i + m → q < cntF p (t.drop i) → p (t.getD (i + q) d) := by
  intro m
  induction m with
  | zero =>
    intro i q h1 h2
    have := cnt_b (p := p) (t := t) (i := i)
    omega
  | succ m ih =>
    intro i q h1 h2
    have hb := cnt_b (p := p) (t := t) (i := i)
    have hi : i < t.length := by omega
    by_cases g : p (t.getD i d)
    · cases q with
      | zero => exact g
      | succ q =>
        have e : cntF p (t.drop i) = cntF p (t.drop (i + 1)) + 1 := by
          rw [getD_in hi] at g
          rw [List.drop_eq_getElem_cons hi]
          show (if b01 (p t[i]) = 0 then 0 else cntF p (t.drop (i + 1)) + 1) = _
          rw [if_neg (fun q => b01_ne.mp q g)]
        have := ih (i + 1) q (by omega) (by omega)
        rw [show i + 1 + q = i + (q + 1) by omega] at this
        exact this
    · rw [cnt_n g] at h2
      omega
set_option maxRecDepth 100000 in
theorem lo_is {t : List Int32} {i e q : Nat} (h : q < lo t i e) : isL (t.getD (i + q) 0) := by
  refine cnt_is 0 t.length i q (by omega) ?_
  unfold lo at h
  split at h <;> omega
/-- the column that n letters mean -/
def cvG (t : List Int32) : Nat → Nat → Nat → Nat
  | 0, _, c => c
  | m + 1, i, c => cvG t m (i + 1) (26 * c + lv (t.getD i 0))
set_option maxRecDepth 100000 in
theorem d213l {s : aS} {r : Nat → Int32} {t : List Int32} {i n k : Nat} (h : TX s r t) (hn : ∀ q, q < n → isL (t.getD (i + q) 0)) (hi : i + n ≤ t.length) : ∀ (m j c N : Nat), (j + m = n ∨ (j + m = 4 ∧ 4 ≤ n)) → j + m ≤ 4 → c + 1 ≤ 27 ^ j → m < N → dm213_4 N (Int32.ofNat i) (Int32.ofNat n) (Int32.ofNat c) (Int32.ofNat j) (wP s r k) = some (Int32.ofNat (cvG t m (i + j) c)) := by
  have hl := h.1
  intro m
  induction m with
  | zero =>
    intro j c N h1 h2 h3 h4
    obtain ⟨N, rfl⟩ : ∃ q, N = q + 1 := ⟨N - 1, by omega⟩
    rw [dm213_4]
    by_cases g : n ≤ j
    · rw [if_pos ((nle_iff (by omega) (by omega)).mpr g)]
      rfl
    · rw [if_neg (fun q => g ((nle_iff (by omega) (by omega)).mp q)), if_pos (show (4 : Int32) ≤ Int32.ofNat j from (nle_iff (a := 4) (by omega) (by omega)).mpr (by omega))]
      rfl
  | succ m ih =>
    intro j c N h1 h2 h3 h4
    obtain ⟨N, rfl⟩ : ∃ q, N = q + 1 := ⟨N - 1, by omega⟩
    have hp : 27 ^ j ≤ 27 ^ 3 := Nat.pow_le_pow_right (by decide) (by omega)
    have hp3 : 27 ^ 3 = 19683 := by decide
    have hL := hn j (by omega)
    have hb := lv_b hL
    rw [dm213_4, if_neg (fun q => by have := (nle_iff (by omega) (by omega)).mp q; omega), if_neg (fun q => by have := (nle_iff (a := 4) (by omega) (by omega)).mp q; omega), iSum (by omega) (by omega), if_pos (by rw [aB_iff, iOfNat (by omega)]; omega), jN_of (by omega), tx_at h (by omega), d178]
    simp only [bu_some]
    rw [lv_s hL (by omega), ofNat_succ (by omega), ih (j + 1) (26 * c + lv (t.getD (i + j) 0)) N (by omega) (by omega) (by rw [Nat.pow_succ]; omega) (by omega)]
    rfl
set_option maxRecDepth 100000 in
theorem cvG_b {t : List Int32} {i : Nat} : ∀ (m j c : Nat), (∀ q, q < j + m → isL (t.getD (i + q) 0)) → c + 1 ≤ 27 ^ j → cvG t m (i + j) c + 1 ≤ 27 ^ (j + m) ∧ (0 < m → 1 ≤ cvG t m (i + j) c) ∧ c ≤ cvG t m (i + j) c
  | 0, j, c, _, h => ⟨h, fun q => absurd q (Nat.lt_irrefl _), Nat.le_refl _⟩
  | m + 1, j, c, hn, h => by
    have hb := lv_b (hn j (by omega))
    obtain ⟨a1, a2, a3⟩ := cvG_b (t := t) (i := i) m (j + 1) (26 * c + lv (t.getD (i + j) 0)) (fun q hq => hn q (by omega)) (by rw [Nat.pow_succ]; omega)
    rw [show j + 1 + m = j + (m + 1) by omega] at a1
    exact ⟨a1, fun _ => Nat.le_trans (by omega) a3, Nat.le_trans (by omega) a3⟩
/-- the column of the first n letters, four at most -/
def cv4 (t : List Int32) (n i : Nat) : Nat := cvG t (if n ≤ 4 then n else 4) i 0
set_option maxRecDepth 100000 in
theorem d213 {s : aS} {r : Nat → Int32} {t : List Int32} {i n k : Nat} (h : TX s r t) (hn : ∀ q, q < n → isL (t.getD (i + q) 0)) (hi : i + n ≤ t.length) : dm213 (Int32.ofNat i) (Int32.ofNat n) (wP s r k) = some (Int32.ofNat (cv4 t n i)) := by
  unfold dm213 cv4
  by_cases g : n ≤ 4
  · rw [if_pos g]
    exact d213l h hn hi n 0 0 5000 (by omega) (by omega) (by decide) (by omega)
  · rw [if_neg g]
    exact d213l h hn hi 4 0 0 5000 (by omega) (by omega) (by decide) (by omega)
set_option maxRecDepth 100000 in
theorem cv4_b {t : List Int32} {n i : Nat} (hn : ∀ q, q < n → isL (t.getD (i + q) 0)) : cv4 t n i < 531441 ∧ (0 < n → 1 ≤ cv4 t n i) := by
  unfold cv4
  by_cases g : n ≤ 4
  · rw [if_pos g]
    obtain ⟨a1, a2, a3⟩ := cvG_b (t := t) (i := i) n 0 0 (fun q hq => hn q (by omega)) (by decide)
    have hp : 27 ^ (0 + n) ≤ 27 ^ 4 := Nat.pow_le_pow_right (by decide) (by omega)
    have hp3 : 27 ^ 4 = 531441 := by decide
    simp only [Nat.add_zero, Nat.zero_add] at a1 a2 hp
    exact ⟨by omega, a2⟩
  · rw [if_neg g]
    obtain ⟨a1, a2, a3⟩ := cvG_b (t := t) (i := i) 4 0 0 (fun q hq => hn q (by omega)) (by decide)
    have hp3 : 27 ^ (0 + 4) = 531441 := by decide
    simp only [Nat.add_zero, Nat.zero_add] at a1 a2 hp3
    exact ⟨by omega, fun _ => a2 (by decide)⟩
