/-! cells, as the reference reads them -/
def cR (r : Nat → Int32) (w c f : Int32) : Nat → Int32 := setN (setN (setN r 41 f) 40 c) 39 w
set_option maxRecDepth 100000 in
theorem cR_w (r : Nat → Int32) (w c f : Int32) : cR r w c f 39 = w := rfl
set_option maxRecDepth 100000 in
theorem cR_c (r : Nat → Int32) (w c f : Int32) : cR r w c f 40 = c := rfl
set_option maxRecDepth 100000 in
theorem cR_f (r : Nat → Int32) (w c f : Int32) : cR r w c f 41 = f := rfl
set_option maxRecDepth 100000 in
theorem cR_n {r : Nat → Int32} {w c f : Int32} {k : Nat} (h : k ≠ 39 ∧ k ≠ 40 ∧ k ≠ 41) : cR r w c f k = r k := by
  unfold cR setN
  rw [if_neg h.1, if_neg h.2.1, if_neg h.2.2]
set_option maxRecDepth 100000 in
theorem cR_39 (r : Nat → Int32) (w c f v : Int32) : setN (cR r w c f) 39 v = cR r v c f := setN_2 _ _ _ _
set_option maxRecDepth 100000 in
theorem cR_40 (r : Nat → Int32) (w c f v : Int32) : setN (cR r w c f) 40 v = cR r w v f := by
  unfold cR
  rw [setN_c (by decide), setN_2]
set_option maxRecDepth 100000 in
theorem cR_41 (r : Nat → Int32) (w c f v : Int32) : setN (cR r w c f) 41 v = cR r w c v := by
  unfold cR
  rw [setN_c (by decide), setN_c (r := setN r 41 f) (by decide), setN_2]
set_option maxRecDepth 100000 in
theorem TX.cr {s : aS} {r : Nat → Int32} {t : List Int32} (h : TX s r t) (w c f : Int32) : TX s (cR r w c f) t := ((h.set 41 _ (by decide)).set 40 _ (by decide)).set 39 _ (by decide)
set_option maxRecDepth 100000 in
theorem gr_L {x : Int32} (h : isL x) : 65 ≤ (gr x).toInt ∧ (gr x).toInt ≤ 90 := by
  have l1 : x < 97 ↔ x.toInt < 97 := iLt
  have l2 : 122 < x ↔ 122 < x.toInt := iLt
  unfold gr
  rcases h with h | h
  · rw [if_pos (l1.mpr (by omega))]
    exact h
  · rw [if_neg (fun q => by have := l1.mp q; omega), if_neg (fun q => by have := l2.mp q; omega)]
    have e : (x - 32).toInt = x.toInt - 32 := iSub (y := 32) (by show _ ≤ x.toInt - 32; omega) (by show x.toInt - 32 ≤ _; omega)
    rw [e]
    omega
def lv (x : Int32) : Nat := (gr x).toInt.toNat - 64
def dv (x : Int32) : Nat := x.toInt.toNat - 48
set_option maxRecDepth 100000 in
theorem lv_b {x : Int32} (h : isL x) : 1 ≤ lv x ∧ lv x ≤ 26 := by
  have := gr_L h
  unfold lv
  omega
set_option maxRecDepth 100000 in
theorem lv_s {x : Int32} {c : Nat} (h : isL x) (hc : c ≤ 100000) : ((26 * Int32.ofNat c) + gr x) - 64 = Int32.ofNat (26 * c + lv x) := by
  have hg := gr_L h
  have ec : (Int32.ofNat c).toInt = c := iOfNat (by omega)
  have e1 : (26 * Int32.ofNat c).toInt = 26 * c := by
    rw [iMul (x := 26) (by rw [ec]; show _ ≤ (26 : Int) * c; omega) (by rw [ec]; show (26 : Int) * c ≤ _; omega), ec]
    rfl
  have e2 : ((26 * Int32.ofNat c) + gr x).toInt = 26 * c + (gr x).toInt := by
    rw [iAdd (by omega) (by omega), e1]
  rw [iEq, iSub (y := 64) (by rw [e2]; show _ ≤ _ - (64 : Int); omega) (by rw [e2]; show _ - (64 : Int) ≤ _; omega), e2, iOfNat (by unfold lv; omega)]
  show _ - (64 : Int) = _
  unfold lv
  omega
set_option maxRecDepth 100000 in
theorem dv_s {x : Int32} {w : Nat} (h : isD x) (hw : w ≤ 2000000) : ((10 * Int32.ofNat w) + x) - 48 = Int32.ofNat (10 * w + dv x) := by
  have hg : 48 ≤ x.toInt ∧ x.toInt ≤ 57 := h
  have ec : (Int32.ofNat w).toInt = w := iOfNat (by omega)
  have e1 : (10 * Int32.ofNat w).toInt = 10 * w := by
    rw [iMul (x := 10) (by rw [ec]; show _ ≤ (10 : Int) * w; omega) (by rw [ec]; show (10 : Int) * w ≤ _; omega), ec]
    rfl
  have e2 : ((10 * Int32.ofNat w) + x).toInt = 10 * w + x.toInt := by
    rw [iAdd (by omega) (by omega), e1]
  rw [iEq, iSub (y := 48) (by rw [e2]; show _ ≤ _ - (48 : Int); omega) (by rw [e2]; show _ - (48 : Int) ≤ _; omega), e2, iOfNat (by unfold dv; omega)]
  show _ - (48 : Int) = _
  unfold dv
  omega
set_option maxRecDepth 100000 in
theorem dv_b {x : Int32} (h : isD x) : dv x ≤ 9 := by
  have hg : 48 ≤ x.toInt ∧ x.toInt ≤ 57 := h
  unfold dv
  omega
set_option maxRecDepth 100000 in
/-- letters of a column: how many, which, and where they end -/
noncomputable def clG (t : List Int32) : Nat → Nat → Nat → Nat → Nat × Nat × Nat
  | 0, i, n, c => (n, c, i)
  | m + 1, i, n, c => if b01 (isL (t.getD i 0)) = 0 then (n, c, i) else if 16384 < 26 * c + lv (t.getD i 0) then (n, c, i) else clG t m (i + 1) (n + 1) (26 * c + lv (t.getD i 0))
set_option maxRecDepth 100000 in
noncomputable def rwG (t : List Int32) : Nat → Nat → Nat → Nat × Nat
  | 0, i, w => (w, i)
  | m + 1, i, w => if b01 (isD (t.getD i 0)) = 0 then (w, i) else if 1048576 < 10 * w + dv (t.getD i 0) then (w, i) else rwG t m (i + 1) (10 * w + dv (t.getD i 0))
set_option maxRecDepth 100000 in
theorem isL0 : ¬ isL 0 := by unfold isL; decide
set_option maxRecDepth 100000 in
theorem isLm : ¬ isL (-1) := by unfold isL; decide
set_option maxRecDepth 100000 in
theorem in_of {p : Int32 → Prop} {t : List Int32} {i : Nat} {d : Int32} (h0 : ¬ p d) (h : p (t.getD i d)) : i < t.length := (cnt_y h0 h).1
set_option maxRecDepth 100000 in
theorem clG_b {t : List Int32} : ∀ (m i n c : Nat), i ≤ t.length → c ≤ 16384 → n ≤ (clG t m i n c).1 ∧ (clG t m i n c).1 ≤ n + m ∧ (clG t m i n c).2.1 ≤ 16384 ∧ i ≤ (clG t m i n c).2.2 ∧ (clG t m i n c).2.2 ≤ t.length ∧ (clG t m i n c).2.2 = i + ((clG t m i n c).1 - n) ∧ (n < (clG t m i n c).1 → 1 ≤ (clG t m i n c).2.1) ∧ c ≤ (clG t m i n c).2.1
  | 0, i, n, c, hi, hc => ⟨Nat.le_refl _, Nat.le_refl _, hc, Nat.le_refl _, hi, by show i = i + (n - n); omega, fun q => absurd q (Nat.lt_irrefl _), Nat.le_refl _⟩
  | m + 1, i, n, c, hi, hc => by
    rw [clG]
    have z : n ≤ n ∧ n ≤ n + (m + 1) ∧ c ≤ 16384 ∧ i ≤ i ∧ i ≤ t.length ∧ i = i + (n - n) ∧ (n < n → 1 ≤ c) ∧ c ≤ c := ⟨Nat.le_refl _, by omega, hc, Nat.le_refl _, hi, by omega, fun q => absurd q (Nat.lt_irrefl _), Nat.le_refl _⟩
    by_cases h1 : isL (t.getD i 0)
    · rw [if_neg (fun q => b01_ne.mp q h1)]
      by_cases h2 : 16384 < 26 * c + lv (t.getD i 0)
      · rw [if_pos h2]
        exact z
      · rw [if_neg h2]
        have hi2 := in_of isL0 h1
        have hb := lv_b h1
        obtain ⟨a1, a2, a3, a4, a5, a6, a7, a8⟩ := clG_b (t := t) m (i + 1) (n + 1) (26 * c + lv (t.getD i 0)) (by omega) (by omega)
        exact ⟨by omega, by omega, a3, by omega, a5, by omega, fun _ => by omega, by omega⟩
    · rw [if_pos (b01_ne.mpr h1)]
      exact z
set_option maxRecDepth 100000 in
theorem rwG_b {t : List Int32} : ∀ (m i w : Nat), i ≤ t.length → w ≤ 1048576 → w ≤ (rwG t m i w).1 ∧ (rwG t m i w).1 ≤ 1048576 ∧ i ≤ (rwG t m i w).2 ∧ (rwG t m i w).2 ≤ t.length
  | 0, i, w, hi, hw => ⟨Nat.le_refl _, hw, Nat.le_refl _, hi⟩
  | m + 1, i, w, hi, hw => by
    rw [rwG]
    by_cases h1 : isD (t.getD i 0)
    · rw [if_neg (fun q => b01_ne.mp q h1)]
      by_cases h2 : 1048576 < 10 * w + dv (t.getD i 0)
      · rw [if_pos h2]
        exact ⟨Nat.le_refl _, hw, Nat.le_refl _, hi⟩
      · rw [if_neg h2]
        have hi2 := in_of isD0 h1
        obtain ⟨a1, a2, a3, a4⟩ := rwG_b (t := t) m (i + 1) (10 * w + dv (t.getD i 0)) (by omega) (by omega)
        exact ⟨by omega, a2, by omega, a4⟩
    · rw [if_pos (b01_ne.mpr h1)]
      exact ⟨Nat.le_refl _, hw, Nat.le_refl _, hi⟩
set_option maxRecDepth 100000 in
theorem d207l {s : aS} {r : Nat → Int32} {t : List Int32} {f : Int32} (h : TX s r t) : ∀ (m i n c k : Nat), n + m = 3 → i ≤ t.length → c ≤ 16384 → m < k → dm207_26 k (Int32.ofNat n) (wP s (cR r 0 (Int32.ofNat c) f) i) = dm207_71 (Int32.ofNat (clG t m i n c).1) (wP s (cR r 0 (Int32.ofNat (clG t m i n c).2.1) f) (clG t m i n c).2.2) := by
  have hl := h.1
  intro m
  induction m with
  | zero =>
    intro i n c k h1 h2 h3 h4
    obtain ⟨k, rfl⟩ : ∃ q, k = q + 1 := ⟨k - 1, by omega⟩
    have h1 : n = 3 := by omega
    subst h1
    rw [dm207_26]
    simp only [wP_at, rch (h.cr 0 (Int32.ofNat c) f) (show i < 100000 by omega), bu_some, d198]
    rw [if_pos (show (3 : Int32) ≤ Int32.ofNat 3 by decide), ite_self]
    rfl
  | succ m ih =>
    intro i n c k h1 h2 h3 h4
    obtain ⟨k, rfl⟩ : ∃ q, k = q + 1 := ⟨k - 1, by omega⟩
    have hn : ¬ (3 : Int32) ≤ Int32.ofNat n := by
      rw [iLe, iOfNat (by omega)]
      show ¬ (3 : Int) ≤ n
      omega
    rw [dm207_26]
    simp only [wP_at, rch (h.cr 0 (Int32.ofNat c) f) (show i < 100000 by omega), bu_some, d198, d178]
    rw [if_neg hn, clG]
    by_cases g : isL (t.getD i 0)
    · rw [if_neg (fun q => b01_ne.mp q g), if_neg (fun q => b01_ne.mp q g)]
      simp only [wP_f (show (40 : Nat) ≠ 26 by decide), cR_c]
      rw [lv_s g (by omega)]
      have hb := lv_b g
      have hc : (16384 : Int32) < Int32.ofNat (26 * c + lv (t.getD i 0)) ↔ 16384 < 26 * c + lv (t.getD i 0) := nlt_iff (a := 16384) (by omega) (by omega)
      by_cases g2 : 16384 < 26 * c + lv (t.getD i 0)
      · rw [if_pos (hc.mpr g2), if_pos g2]
      · rw [if_neg (fun q => g2 (hc.mp q)), if_neg g2]
        simp only [nx_eq]
        rw [wP_set (by decide), cR_40, wP_at, ofNat_succ (n := i) (by omega), wP_go, ofNat_succ (by omega)]
        exact ih (i + 1) (n + 1) (26 * c + lv (t.getD i 0)) k (by omega) (in_of isL0 g) (by omega) (by omega)
    · rw [if_pos (b01_ne.mpr g), if_pos (b01_ne.mpr g)]
set_option maxRecDepth 100000 in
theorem d208l {s : aS} {r : Nat → Int32} {t : List Int32} {c f : Int32} (h : TX s r t) : ∀ (m i w k : Nat), t.length < i + m → i ≤ t.length → w ≤ 1048576 → m < k → dm208_35 k (wP s (cR r (Int32.ofNat w) c f) i) = some (wP s (cR r (Int32.ofNat (rwG t m i w).1) c f) (rwG t m i w).2) := by
  have hl := h.1
  intro m
  induction m with
  | zero =>
    intro i w k h1 h2 h3 h4
    omega
  | succ m ih =>
    intro i w k h1 h2 h3 h4
    obtain ⟨k, rfl⟩ : ∃ q, k = q + 1 := ⟨k - 1, by omega⟩
    rw [dm208_35]
    simp only [wP_at, rch (h.cr (Int32.ofNat w) c f) (show i < 100000 by omega), bu_some, d196]
    rw [rwG]
    by_cases g : isD (t.getD i 0)
    · rw [if_neg (fun q => b01_ne.mp q g), if_neg (fun q => b01_ne.mp q g)]
      simp only [wP_f (show (39 : Nat) ≠ 26 by decide), cR_w]
      rw [dv_s g (by omega)]
      have hb := dv_b g
      have hc : (1048576 : Int32) < Int32.ofNat (10 * w + dv (t.getD i 0)) ↔ 1048576 < 10 * w + dv (t.getD i 0) := by
        rw [iLt, iOfNat (by omega)]
        show (1048576 : Int) < _ ↔ _
        omega
      by_cases g2 : 1048576 < 10 * w + dv (t.getD i 0)
      · rw [if_pos (hc.mpr g2), if_pos g2]
      · rw [if_neg (fun q => g2 (hc.mp q)), if_neg g2]
        simp only [nx_eq]
        rw [wP_set (by decide), cR_39, wP_at, ofNat_succ (by omega), wP_go]
        exact ih (i + 1) (10 * w + dv (t.getD i 0)) k (by omega) (in_of isD0 g) (by omega) (by omega)
    · rw [if_pos (b01_ne.mpr g), if_pos (b01_ne.mpr g)]
