/-! is a word a cell, is it TRUE or FALSE, in the reference -/
set_option maxRecDepth 100000 in
noncomputable def dgG (t : List Int32) : Nat → Nat → Nat → Option Nat
  | 0, _, w => some w
  | m + 1, p, w => if b01 (isD (t.getD p 0)) = 0 then none else dgG t m (p + 1) (10 * w + dv (t.getD p 0))
set_option maxRecDepth 100000 in
theorem cR_id (r : Nat → Int32) : cR r (r 39) (r 40) (r 41) = r := by
  unfold cR
  rw [setN_id (k := 41) rfl, setN_id (k := 40) rfl, setN_id (k := 39) rfl]
set_option maxRecDepth 100000 in
/-- the row and the column of a word from i to e that is a cell -/
noncomputable def icR (t : List Int32) (i e : Nat) : Option (Nat × Nat) := if lo t i e < 1 ∨ 3 < lo t i e ∨ e - i - lo t i e < 1 ∨ 7 < e - i - lo t i e ∨ t.getD (i + lo t i e) 0 = 48 then none else match dgG t (e - i - lo t i e) (i + lo t i e) 0 with
  | none => none
  | some w => if 1048576 < w ∨ 16384 < cv4 t (lo t i e) i then none else some (w, cv4 t (lo t i e) i)
set_option maxRecDepth 100000 in
theorem d214l {s : aS} {r : Nat → Int32} {t : List Int32} {i e k n : Nat} (h : TX s r t) (hn : n = lo t i e) (hi : i ≤ e) (he : e ≤ t.length) : ∀ (m j p w N : Nat), p + m = e → j + m ≤ 7 → w + 1 ≤ 10 ^ j → m < N → (dgG t m p w = none ∧ dm214_41 N (Int32.ofNat i) (Int32.ofNat e) (Int32.ofNat n) (Int32.ofNat w) (Int32.ofNat p) (wP s r k) = some (0, wP s r k)) ∨ ∃ v, dgG t m p w = some v ∧ v < 10000000 ∧ dm214_41 N (Int32.ofNat i) (Int32.ofNat e) (Int32.ofNat n) (Int32.ofNat w) (Int32.ofNat p) (wP s r k) = some (if 1048576 < v ∨ 16384 < cv4 t n i then 0 else 1, wP s (cR r (Int32.ofNat v) (Int32.ofNat (cv4 t n i)) 0) k) := by
  have hl := h.1
  intro m
  induction m with
  | zero =>
    intro j p w N h1 h2 h3 h4
    obtain ⟨N, rfl⟩ : ∃ q, N = q + 1 := ⟨N - 1, by omega⟩
    have hp : 10 ^ j ≤ 10 ^ 7 := Nat.pow_le_pow_right (by decide) (by omega)
    have hp3 : 10 ^ 7 = 10000000 := by decide
    have hb := lo_b t i e
    have hL : ∀ q, q < n → isL (t.getD (i + q) 0) := fun q hq => lo_is (e := e) (by rw [← hn]; exact hq)
    have hcb := cv4_b hL
    right
    refine ⟨w, rfl, by omega, ?_⟩
    rw [dm214_41, if_pos ((nle_iff (by omega) (by omega)).mpr (by omega))]
    simp only [nx_eq]
    rw [wP_set (by decide), wP_set (by decide)]
    have hT : TX s (setN (setN r 41 0) 39 (Int32.ofNat w)) t := (h.set 41 _ (by decide)).set 39 _ (by decide)
    rw [d213 hT hL (by omega)]
    simp only [bu_some]
    rw [wP_set (by decide), wP_f (by decide)]
    have e1 : setN (setN (setN r 41 0) 39 (Int32.ofNat w)) 40 (Int32.ofNat (cv4 t n i)) = cR r (Int32.ofNat w) (Int32.ofNat (cv4 t n i)) 0 := by
      unfold cR
      rw [setN_c (by decide)]
    rw [e1, cR_c]
    have c1 : (1048576 : Int32) < Int32.ofNat w ↔ 1048576 < w := by
      rw [iLt, iOfNat (by omega)]
      show (1048576 : Int) < w ↔ _
      omega
    have c2 : (16384 : Int32) < Int32.ofNat (cv4 t n i) ↔ 16384 < cv4 t n i := by
      rw [iLt, iOfNat (by omega)]
      show (16384 : Int) < (cv4 t n i : Nat) ↔ _
      omega
    by_cases g1 : 1048576 < w
    · rw [if_pos (c1.mpr g1), if_pos (Or.inl g1)]
    · rw [if_neg (fun q => g1 (c1.mp q))]
      by_cases g2 : 16384 < cv4 t n i
      · rw [if_pos (c2.mpr g2), if_pos (Or.inr g2)]
      · rw [if_neg (fun q => g2 (c2.mp q)), if_neg (by rintro (q | q); exact g1 q; exact g2 q)]
  | succ m ih =>
    intro j p w N h1 h2 h3 h4
    obtain ⟨N, rfl⟩ : ∃ q, N = q + 1 := ⟨N - 1, by omega⟩
    have hp : 10 ^ j ≤ 10 ^ 6 := Nat.pow_le_pow_right (by decide) (by omega)
    have hp3 : 10 ^ 6 = 1000000 := by decide
    rw [dm214_41, if_neg (fun q => by have := (nle_iff (by omega) (by omega)).mp q; omega)]
    simp only [if_pos (show aB (Int32.ofNat p) 256 by rw [aB_iff, iOfNat (by omega)]; omega), jN_of (show p < 2147483648 by omega), tx_at h (show p < t.length by omega), d196, bu_some]
    rw [dgG]
    by_cases g : isD (t.getD p 0)
    · have hb := dv_b g
      rw [if_neg (fun q => b01_ne.mp q g), if_neg (fun q => b01_ne.mp q g), dv_s g (by omega), ofNat_succ (by omega)]
      exact ih (j + 1) (p + 1) (10 * w + dv (t.getD p 0)) N (by omega) (by omega) (by rw [Nat.pow_succ]; omega) (by omega)
    · left
      rw [if_pos (b01_ne.mpr g), if_pos (b01_ne.mpr g)]
      exact ⟨rfl, rfl⟩
set_option maxRecDepth 100000 in
theorem d214 {s : aS} {r : Nat → Int32} {t : List Int32} {i e k : Nat} (h : TX s r t) (hi : i ≤ e) (he : e ≤ t.length) : (icR t i e = none ∧ ∃ w c f, dm214 (Int32.ofNat i) (Int32.ofNat e) (wP s r k) = some (0, wP s (cR r w c f) k)) ∨ ∃ w c, icR t i e = some (w, c) ∧ dm214 (Int32.ofNat i) (Int32.ofNat e) (wP s r k) = some (1, wP s (cR r (Int32.ofNat w) (Int32.ofNat c) 0) k) := by
  have hl := h.1
  have hb := lo_b t i e
  unfold dm214 icR
  rw [d212 h hi he]
  simp only [bu_some]
  have same : ∃ w c f, (some (0, wP s r k) : Option (Int32 × aS)) = some (0, wP s (cR r w c f) k) := ⟨r 39, r 40, r 41, by rw [cR_id]⟩
  have es : (Int32.ofNat e - Int32.ofNat i) - Int32.ofNat (lo t i e) = Int32.ofNat (e - i - lo t i e) := by
    have e1 : (Int32.ofNat e - Int32.ofNat i).toInt = e - i := by
      rw [iSub (by rw [iOfNat (by omega), iOfNat (by omega)]; omega) (by rw [iOfNat (by omega), iOfNat (by omega)]; omega), iOfNat (by omega), iOfNat (by omega)]
    rw [iEq, iSub (by rw [e1, iOfNat (by omega)]; omega) (by rw [e1, iOfNat (by omega)]; omega), e1, iOfNat (by omega), iOfNat (by omega)]
    omega
  rw [es]
  have k1 : Int32.ofNat (lo t i e) < 1 ↔ lo t i e < 1 := nlt_iff (b := 1) (by omega) (by omega)
  have k2 : 3 < Int32.ofNat (lo t i e) ↔ 3 < lo t i e := nlt_iff (a := 3) (by omega) (by omega)
  have k3 : Int32.ofNat (e - i - lo t i e) < 1 ↔ e - i - lo t i e < 1 := nlt_iff (b := 1) (by omega) (by omega)
  have k4 : 7 < Int32.ofNat (e - i - lo t i e) ↔ 7 < e - i - lo t i e := nlt_iff (a := 7) (by omega) (by omega)
  by_cases c1 : lo t i e < 1
  · rw [if_pos (k1.mpr c1), if_pos (Or.inl c1)]
    exact Or.inl ⟨rfl, same⟩
  · rw [if_neg (fun q => c1 (k1.mp q))]
    by_cases c2 : 3 < lo t i e
    · rw [if_pos (k2.mpr c2), if_pos (Or.inr (Or.inl c2))]
      exact Or.inl ⟨rfl, same⟩
    · rw [if_neg (fun q => c2 (k2.mp q))]
      by_cases c3 : e - i - lo t i e < 1
      · rw [if_pos (k3.mpr c3), if_pos (Or.inr (Or.inr (Or.inl c3)))]
        exact Or.inl ⟨rfl, same⟩
      · rw [if_neg (fun q => c3 (k3.mp q))]
        by_cases c4 : 7 < e - i - lo t i e
        · rw [if_pos (k4.mpr c4), if_pos (Or.inr (Or.inr (Or.inr (Or.inl c4))))]
          exact Or.inl ⟨rfl, same⟩
        · rw [if_neg (fun q => c4 (k4.mp q)), iSum (by omega) (by omega)]
          simp only [if_pos (show aB (Int32.ofNat (i + lo t i e)) 256 by rw [aB_iff, iOfNat (by omega)]; omega), jN_of (show i + lo t i e < 2147483648 by omega), tx_at h (show i + lo t i e < t.length by omega)]
          by_cases c5 : t.getD (i + lo t i e) 0 = 48
          · rw [if_pos c5, if_pos (Or.inr (Or.inr (Or.inr (Or.inr c5))))]
            exact Or.inl ⟨rfl, same⟩
          · rw [if_neg c5, if_neg (by rintro (q | q | q | q | q); exact c1 q; exact c2 q; exact c3 q; exact c4 q; exact c5 q)]
            rcases d214l (k := k) h rfl hi he (e - i - lo t i e) 0 (i + lo t i e) 0 5000 (by omega) (by omega) (by decide) (by omega) with ⟨a1, a2⟩ | ⟨v, a1, a2, a3⟩
            · left
              rw [a1]
              refine ⟨rfl, ?_⟩
              rw [show (0 : Int32) = Int32.ofNat 0 from rfl]
              obtain ⟨w, c, f, q⟩ := same
              exact ⟨w, c, f, by rw [a2]; exact q⟩
            · rw [a1]
              by_cases g : 1048576 < v ∨ 16384 < cv4 t (lo t i e) i
              · left
                refine ⟨if_pos g, Int32.ofNat v, Int32.ofNat (cv4 t (lo t i e) i), 0, ?_⟩
                rw [if_pos g] at a3
                exact a3
              · right
                refine ⟨v, cv4 t (lo t i e) i, if_neg g, ?_⟩
                rw [if_neg g] at a3
                exact a3
set_option maxRecDepth 100000 in
theorem d215l {s : aS} {r : Nat → Int32} {t u : List Int32} {W : Int64} {i k : Nat} (h : TX s r t) (hi : i + u.length ≤ t.length) (hu : ∀ q, q < u.length → (((W >>> ((8 * ((Int32.ofNat u.length - 1) - Int32.ofNat q)).toInt64 &&& 63)) &&& 255).toInt32) = u.getD q 0) : ∀ (m j N : Nat), j + m = u.length → m + 1 < N → dm215_11 N (Int32.ofNat i) W (Int32.ofNat u.length) 1 (Int32.ofNat j) (wP s r k) = some (b01 (spQ t u i u.length j)) := by
  have hl := h.1
  intro m
  induction m with
  | zero =>
    intro j N h1 h2
    obtain ⟨N, rfl⟩ : ∃ q, N = q + 1 := ⟨N - 1, by omega⟩
    rw [dm215_11, if_pos ((nle_iff (by omega) (by omega)).mpr (by omega)), if_pos (Or.inr rfl), b01_t]
    intro q a b
    omega
  | succ m ih =>
    intro j N h1 h2
    obtain ⟨N, rfl⟩ : ∃ q, N = q + 2 := ⟨N - 2, by omega⟩
    rw [dm215_11, if_neg (fun q => by have := (nle_iff (by omega) (by omega)).mp q; omega), if_neg (by decide), iSum (by omega) (by omega), if_pos (by rw [aB_iff, iOfNat (by omega)]; omega), jN_of (by omega), tx_at h (by omega), d178, hu j (by omega)]
    unfold dm215_39
    simp only [bu_some]
    have e9 : t.getD (i + j) 0 = t.getD (i + j) (-1) := by rw [getD_in (by omega), getD_in (by omega)]
    rw [e9, ofNat_succ (by omega)]
    by_cases g : gr (t.getD (i + j) (-1)) = u.getD j 0
    · rw [if_pos g, ih (j + 1) (N + 1) (by omega) (by omega)]
      rw [b01_c]
      constructor
      · intro z q a b
        by_cases w : q = j
        · rw [w]; exact g
        · exact z q (by omega) b
      · intro z q a b
        exact z q (by omega) b
    · rw [if_neg g, b01_f (fun z => g (z j (Nat.le_refl _) (by omega))), dm215_11, if_pos rfl, if_pos (Or.inl rfl), ite_self]
set_option maxRecDepth 100000 in
theorem d215 {s : aS} {r : Nat → Int32} {t u : List Int32} {W : Int64} {i e k : Nat} (h : TX s r t) (hi : i ≤ e) (he : e ≤ t.length) (hu0 : 1 ≤ u.length) (hu8 : u.length < 10) (hu : ∀ q, q < u.length → (((W >>> ((8 * ((Int32.ofNat u.length - 1) - Int32.ofNat q)).toInt64 &&& 63)) &&& 255).toInt32) = u.getD q 0) : dm215 (Int32.ofNat i) (Int32.ofNat e) W (Int32.ofNat u.length) (wP s r k) = some (b01 (e = i + u.length ∧ spQ t u i u.length 0)) := by
  have hl := h.1
  unfold dm215 dm215_8
  have es : Int32.ofNat e - Int32.ofNat i = Int32.ofNat (e - i) := by
    rw [iEq, iSub (by rw [iOfNat (by omega), iOfNat (by omega)]; omega) (by rw [iOfNat (by omega), iOfNat (by omega)]; omega), iOfNat (by omega), iOfNat (by omega), iOfNat (by omega)]
    omega
  rw [es]
  by_cases g : e = i + u.length
  · rw [if_pos ((neq_iff (by omega) (by omega)).mpr (by omega)), show (0 : Int32) = Int32.ofNat 0 from rfl, d215l h (by omega) hu u.length 0 5000 (by omega) (by omega), b01_c]
    exact ⟨fun z => ⟨g, z⟩, fun z => z.2⟩
  · rw [if_neg (fun q => by have := (neq_iff (by omega) (by omega)).mp q; omega), b01_f (fun z => g z.1), dm215_11]
    rw [if_neg (fun q => by have := (nle_iff (b := 0) (by omega) (by omega)).mp q; omega), if_pos rfl, if_pos (Or.inl rfl)]
set_option maxRecDepth 100000 in
theorem d215t {s : aS} {r : Nat → Int32} {t : List Int32} {i e k : Nat} (h : TX s r t) (hi : i ≤ e) (he : e ≤ t.length) : dm215 (Int32.ofNat i) (Int32.ofNat e) 1414681925 4 (wP s r k) = some (b01 (e = i + 4 ∧ spQ t trL i 4 0)) := by
  refine d215 (u := trL) h hi he (by decide) (by decide) (fun q hq => ?_)
  have hq : q < 4 := hq
  match q, hq with
  | 0, _ => decide +kernel
  | 1, _ => decide +kernel
  | 2, _ => decide +kernel
  | 3, _ => decide +kernel
set_option maxRecDepth 100000 in
theorem d215f {s : aS} {r : Nat → Int32} {t : List Int32} {i e k : Nat} (h : TX s r t) (hi : i ≤ e) (he : e ≤ t.length) : dm215 (Int32.ofNat i) (Int32.ofNat e) 301743231813 5 (wP s r k) = some (b01 (e = i + 5 ∧ spQ t faL i 5 0)) := by
  refine d215 (u := faL) h hi he (by decide) (by decide) (fun q hq => ?_)
  have hq : q < 5 := hq
  match q, hq with
  | 0, _ => decide +kernel
  | 1, _ => decide +kernel
  | 2, _ => decide +kernel
  | 3, _ => decide +kernel
  | 4, _ => decide +kernel
