/-! words that are cells: as FormulaTrees reads them, and as the reference does -/
section WD
variable {t : List Int32}
set_option maxRecDepth 100000 in
theorem cnt_ge {p : Int32 → Prop} {d : Int32} (h0 : ¬ p d) : ∀ (k i : Nat), (∀ q, q < k → p (t.getD (i + q) d)) → k ≤ cntF p (t.drop i) := by
  intro k
  induction k with
  | zero => exact fun i _ => Nat.zero_le _
  | succ k ih =>
    intro i h
    have c := h 0 (by omega)
    rw [Nat.add_zero] at c
    obtain ⟨c1, c2⟩ := cnt_y h0 c
    have := ih (i + 1) (fun q hq => by rw [show i + 1 + q = i + (q + 1) by omega]; exact h (q + 1) (by omega))
    omega
set_option maxRecDepth 100000 in
theorem cvG_m : ∀ (k i c : Nat), c ≤ cvG t k i c
  | 0, i, c => Nat.le_refl _
  | k + 1, i, c => Nat.le_trans (by omega) (cvG_m k (i + 1) (26 * c + lv (t.getD i 0)))
set_option maxRecDepth 100000 in
theorem clG_i : ∀ (m i n c : Nat), ∃ k, k ≤ m ∧ clG t m i n c = (n + k, cvG t k i c, i + k) ∧ ∀ q, q < k → isL (t.getD (i + q) 0)
  | 0, i, n, c => ⟨0, Nat.le_refl _, rfl, fun q hq => absurd hq (Nat.not_lt_zero q)⟩
  | m + 1, i, n, c => by
    rw [clG]
    by_cases c1 : isL (t.getD i 0)
    · rw [if_neg (fun z => b01_ne.mp z c1)]
      by_cases c2 : 16384 < 26 * c + lv (t.getD i 0)
      · rw [if_pos c2]
        exact ⟨0, Nat.zero_le _, rfl, fun q hq => absurd hq (Nat.not_lt_zero q)⟩
      · rw [if_neg c2]
        obtain ⟨k, h1, h2, h3⟩ := clG_i m (i + 1) (n + 1) (26 * c + lv (t.getD i 0))
        refine ⟨k + 1, by omega, ?_, fun q hq => ?_⟩
        · rw [h2, show n + 1 + k = n + (k + 1) by omega, show i + 1 + k = i + (k + 1) by omega]
          rfl
        · by_cases q0 : q = 0
          · subst q0
            exact c1
          · have := h3 (q - 1) (by omega)
            rw [show i + 1 + (q - 1) = i + q by omega] at this
            exact this
    · rw [if_pos (b01_ne.mpr c1)]
      exact ⟨0, Nat.zero_le _, rfl, fun q hq => absurd hq (Nat.not_lt_zero q)⟩
set_option maxRecDepth 100000 in
theorem clG_r : ∀ (k m i n c : Nat), k ≤ m → (∀ q, q < k → isL (t.getD (i + q) 0)) → cvG t k i c ≤ 16384 → clG t m i n c = clG t (m - k) (i + k) (n + k) (cvG t k i c)
  | 0, m, i, n, c, _, _, _ => rfl
  | k + 1, m, i, n, c, hm, hL, hc => by
    obtain ⟨m, rfl⟩ : ∃ q, m = q + 1 := ⟨m - 1, by omega⟩
    have c1 := hL 0 (by omega)
    rw [Nat.add_zero] at c1
    have hc : cvG t k (i + 1) (26 * c + lv (t.getD i 0)) ≤ 16384 := hc
    have hm2 := cvG_m (t := t) k (i + 1) (26 * c + lv (t.getD i 0))
    rw [clG, if_neg (fun z => b01_ne.mp z c1), if_neg (by omega), clG_r k m (i + 1) (n + 1) _ (by omega) (fun q hq => by rw [show i + 1 + q = i + (q + 1) by omega]; exact hL (q + 1) (by omega)) hc, show m + 1 - (k + 1) = m - k by omega, show i + 1 + k = i + (k + 1) by omega, show n + 1 + k = n + (k + 1) by omega]
    rfl
set_option maxRecDepth 100000 in
theorem clG_s {m i n c : Nat} (h : ¬ isL (t.getD i 0)) : clG t m i n c = (n, c, i) := by
  cases m with
  | zero => rfl
  | succ m => rw [clG, if_pos (b01_ne.mpr h)]
set_option maxRecDepth 100000 in
theorem rwG_i : ∀ (m i w : Nat), ∃ k, k ≤ m ∧ (rwG t m i w).2 = i + k ∧ dgG t k i w = some (rwG t m i w).1 ∧ ∀ q, q < k → isD (t.getD (i + q) 0)
  | 0, i, w => ⟨0, Nat.le_refl _, rfl, rfl, fun q hq => absurd hq (Nat.not_lt_zero q)⟩
  | m + 1, i, w => by
    rw [rwG]
    by_cases c1 : isD (t.getD i 0)
    · rw [if_neg (fun z => b01_ne.mp z c1)]
      by_cases c2 : 1048576 < 10 * w + dv (t.getD i 0)
      · rw [if_pos c2]
        exact ⟨0, Nat.zero_le _, rfl, rfl, fun q hq => absurd hq (Nat.not_lt_zero q)⟩
      · rw [if_neg c2]
        obtain ⟨k, h1, h2, h3, h4⟩ := rwG_i m (i + 1) (10 * w + dv (t.getD i 0))
        refine ⟨k + 1, by omega, by rw [h2]; omega, ?_, fun q hq => ?_⟩
        · rw [dgG, if_neg (fun z => b01_ne.mp z c1)]
          exact h3
        · by_cases q0 : q = 0
          · subst q0
            exact c1
          · have := h4 (q - 1) (by omega)
            rw [show i + 1 + (q - 1) = i + q by omega] at this
            exact this
    · rw [if_pos (b01_ne.mpr c1)]
      exact ⟨0, Nat.zero_le _, rfl, rfl, fun q hq => absurd hq (Nat.not_lt_zero q)⟩
set_option maxRecDepth 100000 in
theorem rwG_r : ∀ (k m i w v : Nat), k ≤ m → dgG t k i w = some v → v ≤ 1048576 → rwG t m i w = rwG t (m - k) (i + k) v
  | 0, m, i, w, v, _, h, _ => by
    have h : some w = some v := h
    cases h
    rfl
  | k + 1, m, i, w, v, hm, h, hv => by
    obtain ⟨m, rfl⟩ : ∃ q, m = q + 1 := ⟨m - 1, by omega⟩
    rw [dgG] at h
    by_cases c1 : isD (t.getD i 0)
    · rw [if_neg (fun z => b01_ne.mp z c1)] at h
      have := dgG_b k (i + 1) _ v h
      rw [rwG, if_neg (fun z => b01_ne.mp z c1), if_neg (by omega), rwG_r k m (i + 1) _ v (by omega) h hv, show m + 1 - (k + 1) = m - k by omega, show i + 1 + k = i + (k + 1) by omega]
    · rw [if_pos (b01_ne.mpr c1)] at h
      cases h
set_option maxRecDepth 100000 in
theorem rwG_s {m i w : Nat} (h : ¬ isD (t.getD i 0)) : rwG t m i w = (w, i) := by
  cases m with
  | zero => rfl
  | succ m => rw [rwG, if_pos (b01_ne.mpr h)]
set_option maxRecDepth 100000 in
theorem dgG_p : ∀ (k i w v : Nat), dgG t k i w = some v → w * 10 ^ k ≤ v
  | 0, i, w, v, h => by
    have h : some w = some v := h
    cases h
    rw [Nat.pow_zero, Nat.mul_one]
    exact Nat.le_refl _
  | k + 1, i, w, v, h => by
    rw [dgG] at h
    by_cases c1 : isD (t.getD i 0)
    · rw [if_neg (fun z => b01_ne.mp z c1)] at h
      have := dgG_p k (i + 1) _ v h
      rw [Nat.add_mul] at this
      rw [Nat.pow_succ]
      have e : w * (10 ^ k * 10) = 10 * w * 10 ^ k := by
        rw [Nat.mul_comm (10 ^ k) 10, ← Nat.mul_assoc, Nat.mul_comm w 10]
      omega
    · rw [if_pos (b01_ne.mpr c1)] at h
      cases h
set_option maxRecDepth 100000 in
theorem L36 {x : Int32} (h : gW x) : ¬ x = 36 := fun q => by
  rw [q] at h
  unfold gW isL isD at h
  exact absurd h (by decide)
set_option maxRecDepth 100000 in
/-- where a cell's letters and digits end in a word -/
theorem wd_in {i : Nat} (hb : bW (t.getD i 0)) : ∃ k, k ≤ 3 ∧ cK t i = (k, cvG t k i 0, i + k) ∧ (∀ q, q < k → isL (t.getD (i + q) 0)) ∧ i + k ≤ wdE t i ∧ dlR t i = 0 := by
  have hg : gW (t.getD i 0) := by
    rcases hb with q | q
    · exact Or.inl q
    · exact Or.inr (Or.inr (Or.inl q))
  have ed : dlR t i = 0 := if_neg (L36 hg)
  obtain ⟨k, h1, h2, h3⟩ := clG_i (t := t) 3 i 0 0
  refine ⟨k, h1, ?_, h3, ?_, ed⟩
  · unfold cK
    rw [ed, Nat.add_zero, h2, Nat.zero_add]
  · have := cnt_ge (p := gW) gW_0 k i (fun q hq => Or.inl (h3 q hq))
    unfold wdE
    omega
set_option maxRecDepth 100000 in
theorem wd_gt {i : Nat} (hb : bW (t.getD i 0)) : i < wdE t i := by
  have := cnt_ge (t := t) (p := gW) (d := 0) gW_0 1 i (fun q hq => by
    rw [show i + q = i by omega]
    rcases hb with z | z
    · exact Or.inl z
    · exact Or.inr (Or.inr (Or.inl z)))
  unfold wdE
  omega
set_option maxRecDepth 100000 in
theorem wd_w {i q : Nat} (h1 : i ≤ q) (h2 : q < wdE t i) : gW (t.getD q 0) := by
  have := cnt_is (p := gW) (t := t) 0 t.length i (q - i) (by omega) (by unfold wdE at h2; omega)
  rw [show i + (q - i) = q by omega] at this
  exact this
set_option maxRecDepth 100000 in
theorem wd_e (i : Nat) : ¬ gW (t.getD (wdE t i) 0) := cnt_end gW_0 t.length i (by omega)
set_option maxRecDepth 100000 in
/-- no $ was passed: all lies in the word -/
theorem wd_nd {i : Nat} (hb : bW (t.getD i 0)) (hd : (cK t i).2.2 < wdE t i ∨ ¬ t.getD (wdE t i) 0 = 36) : cJ t i = (cK t i).2.2 ∧ cFl t i = 0 ∧ cJ t i ≤ wdE t i ∧ cE t i ≤ wdE t i ∧ (¬ bad (t.getD (cE t i) 0) → cE t i = wdE t i) := by
  obtain ⟨k, h1, h2, h3, h4, h5⟩ := wd_in hb
  have e22 : (cK t i).2.2 = i + k := by rw [h2]
  have nd : dlR t (cK t i).2.2 = 0 := by
    rw [e22] at hd ⊢
    refine if_neg fun z => ?_
    by_cases c : i + k < wdE t i
    · exact L36 (wd_w (by omega) c) z
    · rcases hd with q | q
      · exact c q
      · rw [show wdE t i = i + k by omega] at q
        exact q z
  have eJ : cJ t i = i + k := by
    unfold cJ
    rw [nd, e22, Nat.add_zero]
  obtain ⟨k2, r1, r2, r3, r4⟩ := rwG_i (t := t) 300 (cJ t i) 0
  have eE : cE t i = i + (k + k2) := by
    unfold cE
    rw [r2, eJ]
    omega
  have hE : cE t i ≤ wdE t i := by
    have := cnt_ge (t := t) (p := gW) (d := 0) gW_0 (k + k2) i (fun q hq => by
      by_cases c : q < k
      · exact Or.inl (h3 q c)
      · have := r4 (q - k) (by omega)
        rw [eJ, show i + k + (q - k) = i + q by omega] at this
        exact Or.inr (Or.inl this))
    rw [eE]
    unfold wdE
    omega
  refine ⟨by rw [eJ, e22], by unfold cFl; rw [h5, nd], by omega, hE, fun hbd => ?_⟩
  refine Classical.byContradiction fun z => hbd (Or.inl (wd_w (i := i) ?_ ?_))
  · rw [eE]
    omega
  · omega
set_option maxRecDepth 100000 in
theorem lo_eq9 {i k : Nat} (hL : ∀ q, q < k → isL (t.getD (i + q) 0)) (hn : ¬ isL (t.getD (i + k) 0)) (hk : i + k ≤ wdE t i) : lo t i (wdE t i) = k := by
  have h1 := cnt_ge (t := t) (p := isL) (d := 0) isL0 k i hL
  have h2 : cntF isL (t.drop i) ≤ k := by
    refine Classical.byContradiction fun z => hn ?_
    exact cnt_is (p := isL) (t := t) 0 t.length i k (by omega) (by omega)
  unfold lo
  rw [if_pos (by omega)]
  omega
set_option maxRecDepth 100000 in
/-- a word that is no cell for the reference is none for FormulaTrees -/
theorem wc_n {i : Nat} (hi : i < t.length) (hb : bW (t.getD i 0)) (hd : ¬ t.getD (wdE t i) 0 = 36) (h : icR t i (wdE t i) = none) : ¬ (cOk t i ∧ ¬ bad (t.getD (cE t i) 0)) := by
  rintro ⟨hok, hbd⟩
  obtain ⟨k, h1, h2, h3, h4, h5⟩ := wd_in hb
  obtain ⟨n1, n2, n3, n4, n5⟩ := wd_nd hb (Or.inr hd)
  have eE := n5 hbd
  have e22 : (cK t i).2.2 = i + k := by rw [h2]
  have eJ : cJ t i = i + k := n1.trans e22
  have hob := cOk_b (by omega) hok
  have k0 : ¬ k = 0 := fun z => hok.1 (by rw [h2]; exact z)
  have hrow := hok.2
  rw [eJ] at hrow
  have hnL : ¬ isL (t.getD (i + k) 0) := fun z => L_D z hrow.1
  have hlo := lo_eq9 h3 hnL h4
  obtain ⟨k2, r1, r2, r3, r4⟩ := rwG_i (t := t) 300 (i + k) 0
  have hE : i + k + k2 = wdE t i := by
    rw [← eE]
    unfold cE
    rw [eJ, r2]
  have hpos := (rw_pos hrow).2.2
  rw [r2] at hpos
  obtain ⟨v, hv⟩ : ∃ v, v = (rwG t 300 (i + k) 0).1 := ⟨_, rfl⟩
  rw [← hv] at r3
  have hvW : cW t i = v := by
    unfold cW
    rw [eJ, hv]
  have hk2 : k2 ≤ 7 := by
    obtain ⟨k3, rfl⟩ : ∃ q, k2 = q + 1 := ⟨k2 - 1, by omega⟩
    rw [dgG, if_neg (fun z => b01_ne.mp z hrow.1)] at r3
    have hp := dgG_p k3 (i + k + 1) _ v r3
    have hdv : 1 ≤ 10 * 0 + dv (t.getD (i + k) 0) := by
      have h9 := hrow.1
      have h8 : ¬ (t.getD (i + k) 0).toInt = 48 := fun z => hrow.2 (iEq.mpr z)
      unfold isD at h9
      unfold dv
      omega
    have h10 : 10 ^ k3 ≤ (10 * 0 + dv (t.getD (i + k) 0)) * 10 ^ k3 := Nat.le_mul_of_pos_left _ hdv
    refine Classical.byContradiction fun z => ?_
    have : 10 ^ 7 ≤ 10 ^ k3 := Nat.pow_le_pow_right (by decide) (by omega)
    have h7 : (10 : Nat) ^ 7 = 10000000 := by decide
    have := hob.1.2
    rw [hvW] at this
    omega
  have hcv : cv4 t k i = cvG t k i 0 := by
    unfold cv4
    rw [if_pos (by omega)]
  have hcl : cvG t k i 0 ≤ 16384 := by
    have := hob.2.1.2
    rw [h2] at this
    exact this
  unfold icR at h
  rw [hlo, show wdE t i - i - k = k2 by omega, if_neg (by
    rintro (q | q | q | q | q)
    · omega
    · omega
    · omega
    · omega
    · exact hrow.2 q), r3] at h
  have h : (if 1048576 < v ∨ 16384 < cv4 t k i then none else some (v, cv4 t k i)) = none := h
  rw [if_neg (by
    have := hob.1.2
    rw [hvW] at this
    rw [hcv]
    omega)] at h
  cases h
set_option maxRecDepth 100000 in
/-- a word that is a cell -/
theorem wc_y {i w c : Nat} (hi : i < t.length) (hb : bW (t.getD i 0)) (hd : ¬ (t.getD (wdE t i) 0 = 36 ∨ t.getD (wdE t i) 0 = 40 ∨ t.getD (wdE t i) 0 = 33)) (h : icR t i (wdE t i) = some (w, c)) : cOk t i ∧ ¬ bad (t.getD (cE t i) 0) ∧ cE t i = wdE t i ∧ cW t i = w ∧ (cK t i).2.1 = c ∧ cFl t i = 0 := by
  obtain ⟨k, h1, h2, h3, h4, h5⟩ := wd_in hb
  obtain ⟨n1, n2, n3, n4, n5⟩ := wd_nd hb (Or.inr (fun z => hd (Or.inl z)))
  unfold icR at h
  obtain ⟨l, hl⟩ : ∃ l, l = lo t i (wdE t i) := ⟨_, rfl⟩
  rw [← hl] at h
  by_cases c0 : l < 1 ∨ 3 < l ∨ wdE t i - i - l < 1 ∨ 7 < wdE t i - i - l ∨ t.getD (i + l) 0 = 48
  · rw [if_pos c0] at h
    cases h
  · rw [if_neg c0] at h
    have hlL : ∀ q, q < l → isL (t.getD (i + q) 0) := fun q hq => lo_is (by rw [← hl]; exact hq)
    cases hg : dgG t (wdE t i - i - l) (i + l) 0 with
    | none =>
      rw [hg] at h
      cases h
    | some v =>
      rw [hg] at h
      have h : (if 1048576 < v ∨ 16384 < cv4 t l i then none else some (v, cv4 t l i)) = some (w, c) := h
      by_cases c1 : 1048576 < v ∨ 16384 < cv4 t l i
      · rw [if_pos c1] at h
        cases h
      · rw [if_neg c1] at h
        have hvw : v = w := (Prod.mk.inj (Option.some.inj h)).1
        have hcc : cv4 t l i = c := (Prod.mk.inj (Option.some.inj h)).2
        rw [← hvw, ← hcc]
        have hcv : cv4 t l i = cvG t l i 0 := by
          unfold cv4
          rw [if_pos (by omega)]
        rw [hcv] at c1 ⊢
        have hD : isD (t.getD (i + l) 0) := by
          obtain ⟨k3, hk3⟩ : ∃ q, wdE t i - i - l = q + 1 := ⟨wdE t i - i - l - 1, by omega⟩
          rw [hk3, dgG] at hg
          refine Classical.byContradiction fun z => ?_
          rw [if_pos (b01_ne.mpr z)] at hg
          cases hg
        have hnL : ¬ isL (t.getD (i + l) 0) := fun z => L_D z hD
        have eK : cK t i = (l, cvG t l i 0, i + l) := by
          unfold cK
          rw [h5, Nat.add_zero, clG_r l 3 i 0 0 (by omega) hlL (by omega), clG_s hnL, Nat.zero_add]
        have e22 : (cK t i).2.2 = i + l := by rw [eK]
        have eJ : cJ t i = i + l := n1.trans e22
        have eR : rwG t 300 (i + l) 0 = (v, wdE t i) := by
          have hw7 : wdE t i - i - l ≤ 7 := by omega
          rw [rwG_r (wdE t i - i - l) 300 (i + l) 0 v (by omega) hg (by omega), show i + l + (wdE t i - i - l) = wdE t i by omega]
          exact rwG_s fun z => wd_e i (Or.inr (Or.inl z))
        have eE : cE t i = wdE t i := by
          unfold cE
          rw [eJ, eR]
        refine ⟨⟨by rw [eK]; show ¬ l = 0; omega, by rw [eJ]; exact ⟨hD, fun z => c0 (Or.inr (Or.inr (Or.inr (Or.inr z))))⟩⟩, ?_, eE, by unfold cW; rw [eJ, eR], by rw [eK], n2⟩
        rw [eE]
        rintro (q | q | q)
        · exact wd_e i q
        · exact hd (Or.inr (Or.inl q))
        · exact hd (Or.inr (Or.inr q))
set_option maxRecDepth 100000 in
/-- a word with $ behind it, letters alone -/
theorem wc_d {i m : Nat} {F : List Fw} (hb : bW (t.getD i 0)) (hd : t.getD (wdE t i) 0 = 36) (hg : ¬ (lo t i (wdE t i) < wdE t i - i ∨ 3 < lo t i (wdE t i) ∨ 16384 < cv4 t (lo t i (wdE t i)) i)) : mDol t F m i (wdE t i) = mCell t F m (-1) i ∧ (cK t i).2.2 = wdE t i ∧ ¬ (cK t i).1 = 0 ∧ ¬ isL (t.getD (cK t i).2.2 0) ∧ cJ t i = wdE t i + 1 := by
  obtain ⟨k, h1, h2, h3, h4, h5⟩ := wd_in hb
  have hgt := wd_gt hb
  obtain ⟨l, hl⟩ : ∃ l, l = lo t i (wdE t i) := ⟨_, rfl⟩
  have hlb := lo_b t i (wdE t i)
  have hle : l = wdE t i - i := by omega
  have hlL : ∀ q, q < l → isL (t.getD (i + q) 0) := fun q hq => lo_is (by rw [← hl]; exact hq)
  have hcv : cv4 t l i = cvG t l i 0 := by
    unfold cv4
    rw [if_pos (by omega)]
  have hnL : ¬ isL (t.getD (wdE t i) 0) := fun z => wd_e i (Or.inl z)
  have eK : cK t i = (l, cvG t l i 0, wdE t i) := by
    unfold cK
    rw [h5, Nat.add_zero, clG_r l 3 i 0 0 (by omega) hlL (by rw [← hcv, hl]; omega), show i + l = wdE t i by omega, clG_s hnL, Nat.zero_add]
  have ed : dlR t (wdE t i) = 1 := if_pos hd
  have e22 : (cK t i).2.2 = wdE t i := by rw [eK]
  have eJ : cJ t i = wdE t i + 1 := by
    unfold cJ
    rw [e22, ed]
  have eF : cFl t i = 1 := by
    unfold cFl
    rw [h5, e22, ed]
  have l0 : ¬ (cK t i).1 = 0 := by
    rw [eK]
    show ¬ l = 0
    omega
  refine ⟨?_, e22, l0, by rw [e22]; exact hnL, eJ⟩
  unfold mDol mCell
  rw [if_neg hg, ed]
  by_cases c : rowB t (wdE t i + 1)
  · have hok : cOk t i := ⟨l0, by rw [eJ]; exact c⟩
    rw [if_neg (fun z => b01_ne.mp z c), if_neg (fun z => b01_ne.mp z hok), ← hl, hcv]
    unfold cE cW
    rw [eJ, eF, eK]
  · have hok : ¬ cOk t i := fun z => c (by rw [← eJ]; exact z.2)
    rw [if_pos (b01_ne.mpr c), if_pos (b01_ne.mpr hok)]
    unfold cB
    rw [if_neg l0, eJ]
set_option maxRecDepth 100000 in
/-- a word with $ behind it, not letters alone: nothing passes the $ -/
theorem wc_x {i : Nat} (hb : bW (t.getD i 0)) (hg : lo t i (wdE t i) < wdE t i - i ∨ 3 < lo t i (wdE t i) ∨ 16384 < cv4 t (lo t i (wdE t i)) i) : (cK t i).2.2 < wdE t i := by
  obtain ⟨k, h1, h2, h3, h4, h5⟩ := wd_in hb
  have e22 : (cK t i).2.2 = i + k := by rw [h2]
  rw [e22]
  refine Classical.byContradiction fun z => ?_
  have hk : i + k = wdE t i := by omega
  have hlo := lo_eq9 h3 (by rw [hk]; exact fun q => wd_e i (Or.inl q)) h4
  rw [hlo] at hg
  have hcv : cv4 t k i = cvG t k i 0 := by
    unfold cv4
    rw [if_pos (by omega)]
  have hcl : cvG t k i 0 ≤ 16384 := by
    by_cases hi : i ≤ t.length
    · have := (cK_b (t := t) hi).2.1
      rw [h2] at this
      exact this
    · exfalso
      have : t.getD i 0 = 0 := getD_out (by omega)
      rw [this] at hb
      unfold bW isL at hb
      exact absurd hb (by decide)
  rw [hcv] at hg
  omega
end WD
