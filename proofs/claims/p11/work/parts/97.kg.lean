/-! the reader of FormulaTrees, exactly: cells -/
def bad (c : Int32) : Prop := gW c ∨ c = 40 ∨ c = 33
set_option maxRecDepth 100000 in
theorem gW_m : ¬ gW (-1) := by unfold gW isL isD; decide
set_option maxRecDepth 100000 in
theorem gW_0 : ¬ gW 0 := by unfold gW isL isD; decide
set_option maxRecDepth 100000 in
theorem bad_m : ¬ bad (-1) := by unfold bad gW isL isD; decide
set_option maxRecDepth 100000 in
theorem bad_0 : ¬ bad 0 := by unfold bad gW isL isD; decide
set_option maxRecDepth 100000 in
theorem L_D {x : Int32} (h : isL x) : ¬ isD x := by unfold isL at h; unfold isD; omega
section XX
variable {s s1 : aS} {b z i : Nat} {t : List Int32} {ns : List (List Int32)} {M : List NN}
set_option maxRecDepth 100000 in
theorem lv_c {x : Int32} {c : Nat} (h : isL x) (hc : c ≤ 100000) : ((Int32.ofNat c * 26) + gr x - 65) + 1 = Int32.ofNat (26 * c + lv x) := by
  rw [← lv_s h hc, Int32.mul_comm (Int32.ofNat c) 26, Int32.sub_eq_add_neg, Int32.sub_eq_add_neg, Int32.add_assoc]
  rfl
set_option maxRecDepth 100000 in
theorem dv_c {x : Int32} {w : Nat} (h : isD x) (hw : w ≤ 2000000) : ((Int32.ofNat w * 10) + x) - 48 = Int32.ofNat (10 * w + dv x) := by
  rw [← dv_s h hw, Int32.mul_comm (Int32.ofNat w) 10]
def a9 (a _k : Nat) : Prop := a = 109
set_option maxRecDepth 100000 in
theorem a9C {a k : Nat} (h : a9 a k) : AC b a k := by unfold a9 at h; unfold AC; omega
set_option maxRecDepth 100000 in
theorem a9O {a k : Nat} (h : a9 a k) : aO b a k := by unfold a9 at h; unfold aO; omega
set_option maxRecDepth 100000 in
/-- letters of a column -/
theorem x90l : ∀ (m q c e n : Nat) (s : aS), KS s b t ns → sI s 109 0 = Int32.ofNat e → sI s 109 2 = Int32.ofNat c → c ≤ 16384 → e ≤ t.length → q + m = 3 → m < n → ∃ v s', dm90_2 n 79 (Int32.ofNat q) s = some (v, s') ∧ ch (fun a k => a = 109 ∧ (k = 0 ∨ k = 2)) s s' ∧ sI s' 109 0 = Int32.ofNat (clG t m e q c).2.2 ∧ ((v = (if (clG t m e q c).1 = 0 then 0 else 1) ∧ sI s' 109 2 = Int32.ofNat (clG t m e q c).2.1) ∨ (v = 0 ∧ isL (t.getD (clG t m e q c).2.2 0))) := by
  intro m
  induction m with
  | zero =>
    intro q c e n s h h0 h2 hc he hq hn
    obtain ⟨n, rfl⟩ : ∃ k, n = k + 1 := ⟨n - 1, by omega⟩
    have hq3 : q = 3 := by omega
    subst hq3
    rw [dm90_2, if_pos (by decide)]
    refine ⟨1, s, rfl, ch.refl _ s, h0, Or.inl ⟨rfl, h2⟩⟩
  | succ m ih =>
    intro q c e n s h h0 h2 hc he hq hn
    have hl := h.1.2.1
    obtain ⟨n, rfl⟩ : ∃ k, n = k + 1 := ⟨n - 1, by omega⟩
    rw [dm90_2, if_neg (fun z => by have := (nle_iff (a := 3) (by omega) (by omega)).mp z; omega), h0, x34 h (by omega)]
    simp only [bu_some, d45, d35]
    rw [clG]
    by_cases c1 : isL (t.getD e (-1))
    · have c10 : isL (t.getD e 0) := (gd_p isLm isL0).mp c1
      have hin : e < t.length := in_of isLm c1
      have ex : t.getD e 0 = t.getD e (-1) := (gd_in hin).symm
      have hlv := lv_b c1
      rw [b01_t c1, if_neg (by decide), b01_t c10, if_neg (show ¬ (1 : Int32) = 0 by decide), h2, lv_c c1 (by omega), ex]
      by_cases c2 : 16384 < 26 * c + lv (t.getD e (-1))
      · rw [if_neg (fun z => by have := (nle_iff (b := 16384) (by omega) (by omega)).mp z; omega), if_pos c2]
        exact ⟨0, s, rfl, ch.refl _ s, h0, Or.inr ⟨rfl, c10⟩⟩
      · rw [if_pos (show Int32.ofNat (26 * c + lv (t.getD e (-1))) ≤ 16384 from (nle_iff (b := 16384) (by omega) (by omega)).mpr (by omega)), if_neg c2]
        simp only [nx_eq]
        have e0 : sI (wI s 109 2 (Int32.ofNat (26 * c + lv (t.getD e (-1))))) 109 0 = Int32.ofNat e := by rw [sI_wI, if_neg (by omega)]; exact h0
        rw [e0, ofNat_succ (by omega), ofNat_succ (by omega)]
        have g : ch (fun a k => a = 109 ∧ (k = 0 ∨ k = 2)) s (wI (wI s 109 2 (Int32.ofNat (26 * c + lv (t.getD e (-1))))) 109 0 (Int32.ofNat (e + 1))) := ((ch.refl _ s).wI (by omega)).wI (by omega)
        obtain ⟨v, s', k1, k2, k3, k4⟩ := ih (q + 1) (26 * c + lv (t.getD e (-1))) (e + 1) n (wI (wI s 109 2 (Int32.ofNat (26 * c + lv (t.getD e (-1))))) 109 0 (Int32.ofNat (e + 1))) (h.of (b := b) (g.mono fun a k z => by unfold AC; omega)) (by rw [sI_wI, if_pos ⟨rfl, rfl⟩]) (by rw [sI_wI, if_neg (by omega), sI_wI, if_pos ⟨rfl, rfl⟩]) (by omega) (by omega) (by omega) (by omega)
        exact ⟨v, s', k1, g.trans k2, k3, k4⟩
    · have c10 : ¬ isL (t.getD e 0) := fun z => c1 ((gd_p isLm isL0).mpr z)
      rw [b01_f c1, if_pos rfl, b01_f c10, if_pos rfl]
      unfold dm90_42
      by_cases q0 : q = 0
      · subst q0
        rw [if_pos (by decide)]
        exact ⟨0, s, rfl, ch.refl _ s, h0, Or.inl ⟨rfl, h2⟩⟩
      · rw [if_neg (fun z => by have := (nle_iff (b := 0) (by omega) (by omega)).mp z; omega)]
        exact ⟨1, s, rfl, ch.refl _ s, h0, Or.inl ⟨(if_neg q0).symm, h2⟩⟩
set_option maxRecDepth 100000 in
/-- digits of a row -/
theorem x91l : ∀ (m q w e n m9 : Nat) (s : aS), KS s b t ns → sI s 109 0 = Int32.ofNat e → sI s 109 1 = Int32.ofNat w → w ≤ 1048576 → (q = 0 → w = 0) → (1 ≤ q → 10 ^ (q - 1) ≤ w) → e ≤ t.length → t.length < e + m9 → q + m = 7 → m < n → ∃ v s', dm91_2 n 79 (Int32.ofNat q) s = some (v, s') ∧ ch (fun a k => a = 109 ∧ (k = 0 ∨ k = 1)) s s' ∧ ((v = 1 ∧ (q = 0 → rowB t e) ∧ sI s' 109 0 = Int32.ofNat (rwG t m9 e w).2 ∧ sI s' 109 1 = Int32.ofNat (rwG t m9 e w).1) ∨ (v = 0 ∧ ((q = 0 ∧ ¬ rowB t e ∧ sI s' 109 0 = Int32.ofNat e) ∨ ((q = 0 → rowB t e) ∧ isD (t.getD (rwG t m9 e w).2 0) ∧ sI s' 109 0 = Int32.ofNat (rwG t m9 e w).2)))) := by
  intro m
  induction m with
  | zero =>
    intro q w e n m9 s h h0 h1 hw hq0 hq1 he hm9 hq hn
    obtain ⟨n, rfl⟩ : ∃ k, n = k + 1 := ⟨n - 1, by omega⟩
    obtain ⟨m9, rfl⟩ : ∃ k, m9 = k + 1 := ⟨m9 - 1, by omega⟩
    have hq7 : q = 7 := by omega
    subst hq7
    have hw6 : 1000000 ≤ w := hq1 (by omega)
    have er : rwG t (m9 + 1) e w = (w, e) := by
      rw [rwG]
      split
      · rfl
      · rw [if_pos (by omega)]
    rw [dm91_2, if_pos (by decide), er]
    exact ⟨1, s, rfl, ch.refl _ s, Or.inl ⟨rfl, fun z => by omega, h0, h1⟩⟩
  | succ m ih =>
    intro q w e n m9 s h h0 h1 hw hq0 hq1 he hm9 hq hn
    have hl := h.1.2.1
    obtain ⟨n, rfl⟩ : ∃ k, n = k + 1 := ⟨n - 1, by omega⟩
    obtain ⟨m9, rfl⟩ : ∃ k, m9 = k + 1 := ⟨m9 - 1, by omega⟩
    rw [dm91_2, if_neg (fun z => by have := (nle_iff (a := 7) (by omega) (by omega)).mp z; omega), h0, x34 h (by omega)]
    simp only [bu_some, d47]
    rw [rwG]
    by_cases c1 : isD (t.getD e (-1))
    · have c10 : isD (t.getD e 0) := (gd_p isDm isD0).mp c1
      have hin : e < t.length := in_of isDm c1
      have ex : t.getD e 0 = t.getD e (-1) := (gd_in hin).symm
      have hdv := dv_b c1
      rw [b01_t c1, if_neg (by decide), b01_t c10, if_neg (show ¬ (1 : Int32) = 0 by decide), h1, dv_c c1 (by omega), ex]
      by_cases c2 : 10 * w + dv (t.getD e (-1)) < 1
      · rw [if_pos (show Int32.ofNat (10 * w + dv (t.getD e (-1))) < 1 by
          rw [iLt, iOfNat (by omega)]
          show ((10 * w + dv (t.getD e (-1)) : Nat) : Int) < 1
          omega)]
        have hq : q = 0 := by
          refine Classical.byContradiction fun z => ?_
          have := hq1 (by omega)
          have : 0 < 10 ^ (q - 1) := Nat.pow_pos (by decide)
          omega
        refine ⟨0, s, rfl, ch.refl _ s, Or.inr ⟨rfl, Or.inl ⟨hq, fun z => z.2 ?_, h0⟩⟩⟩
        have hd0 : dv (t.getD e (-1)) = 0 := by omega
        unfold isD at c1
        unfold dv at hd0
        rw [ex, iEq]
        have : (48 : Int32).toInt = 48 := rfl
        omega
      · rw [if_neg (show ¬ Int32.ofNat (10 * w + dv (t.getD e (-1))) < 1 from fun z => by
          rw [iLt, iOfNat (by omega)] at z
          have z : ((10 * w + dv (t.getD e (-1)) : Nat) : Int) < 1 := z
          omega)]
        by_cases c3 : 1048576 < 10 * w + dv (t.getD e (-1))
        · rw [if_neg (show ¬ Int32.ofNat (10 * w + dv (t.getD e (-1))) ≤ 1048576 from fun z => by
            rw [iLe, iOfNat (by omega)] at z
            have z : ((10 * w + dv (t.getD e (-1)) : Nat) : Int) ≤ 1048576 := z
            omega), if_pos c3]
          exact ⟨0, s, rfl, ch.refl _ s, Or.inr ⟨rfl, Or.inr ⟨fun q0 => by have := hq0 q0; omega, c10, h0⟩⟩⟩
        · rw [if_pos (show Int32.ofNat (10 * w + dv (t.getD e (-1))) ≤ 1048576 by rw [iLe, iOfNat (by omega)]; show _ ≤ (1048576 : Int); omega), if_neg c3]
          simp only [nx_eq]
          have e0 : sI (wI s 109 1 (Int32.ofNat (10 * w + dv (t.getD e (-1))))) 109 0 = Int32.ofNat e := by rw [sI_wI, if_neg (by omega)]; exact h0
          rw [e0, ofNat_succ (by omega), ofNat_succ (by omega)]
          have g : ch (fun a k => a = 109 ∧ (k = 0 ∨ k = 1)) s (wI (wI s 109 1 (Int32.ofNat (10 * w + dv (t.getD e (-1))))) 109 0 (Int32.ofNat (e + 1))) := ((ch.refl _ s).wI (by omega)).wI (by omega)
          have hpw : 10 ^ (q + 1 - 1) ≤ 10 * w + dv (t.getD e (-1)) := by
            rw [Nat.add_sub_cancel]
            by_cases q0 : q = 0
            · subst q0
              rw [Nat.pow_zero]
              omega
            · have := hq1 (by omega)
              obtain ⟨k, rfl⟩ : ∃ k, q = k + 1 := ⟨q - 1, by omega⟩
              rw [Nat.add_sub_cancel] at this
              rw [Nat.pow_succ]
              omega
          obtain ⟨v, s', k1, k2, k3⟩ := ih (q + 1) (10 * w + dv (t.getD e (-1))) (e + 1) n m9 (wI (wI s 109 1 (Int32.ofNat (10 * w + dv (t.getD e (-1))))) 109 0 (Int32.ofNat (e + 1))) (h.of (b := b) (g.mono fun a k z => by unfold AC; omega)) (by rw [sI_wI, if_pos ⟨rfl, rfl⟩]) (by rw [sI_wI, if_neg (by omega), sI_wI, if_pos ⟨rfl, rfl⟩]) (by omega) (fun z => by omega) (fun _ => hpw) (by omega) (by omega) (by omega) (by omega)
          refine ⟨v, s', k1, g.trans k2, ?_⟩
          have hrb : q = 0 → rowB t e := fun q0 => ⟨c10, fun z => c2 (by
            have := hq0 q0
            have : dv (t.getD e (-1)) = 0 := by rw [← ex, z]; rfl
            omega)⟩
          rcases k3 with ⟨a1, -, a3, a4⟩ | ⟨a1, ⟨a2, -⟩ | ⟨-, a2⟩⟩
          · exact Or.inl ⟨a1, hrb, a3, a4⟩
          · omega
          · exact Or.inr ⟨a1, Or.inr ⟨hrb, a2⟩⟩
    · have c10 : ¬ isD (t.getD e 0) := fun z => c1 ((gd_p isDm isD0).mpr z)
      rw [b01_f c1, if_pos rfl, b01_f c10, if_pos rfl]
      unfold dm91_42
      by_cases q0 : q = 0
      · subst q0
        rw [if_pos (by decide)]
        exact ⟨0, s, rfl, ch.refl _ s, Or.inr ⟨rfl, Or.inl ⟨rfl, fun z => c10 z.1, h0⟩⟩⟩
      · rw [if_neg (fun z => by have := (nle_iff (b := 0) (by omega) (by omega)).mp z; omega)]
        exact ⟨1, s, rfl, ch.refl _ s, Or.inl ⟨rfl, fun z => absurd z q0, h0, h1⟩⟩
set_option maxRecDepth 100000 in
theorem x92 (x : Int32) : dm92 x = some (if b01 (bad x) = 0 then 1 else 0) := by
  unfold dm92
  rw [d46]
  simp only [bu_some]
  by_cases c1 : gW x
  · rw [b01_t c1, if_neg (by decide), if_neg (fun z => b01_ne.mp z (show bad x from Or.inl c1))]
  · rw [b01_f c1, if_pos rfl]
    by_cases c2 : x = 40
    · rw [if_pos c2, if_neg (fun z => b01_ne.mp z (show bad x from Or.inr (Or.inl c2)))]
    · rw [if_neg c2]
      by_cases c3 : x = 33
      · rw [if_pos c3, if_neg (fun z => b01_ne.mp z (show bad x from Or.inr (Or.inr c3)))]
      · rw [if_neg c3, if_pos (b01_ne.mpr (fun z => z.elim c1 (fun z => z.elim c2 c3)))]
set_option maxRecDepth 100000 in
/-- a cell read from place j on -/
theorem x89 {j : Nat} (h : KS s b t ns) (hj : j ≤ t.length) : ∃ v s', dm89 79 (Int32.ofNat j) s = some (v, s') ∧ ch a9 s s' ∧ ((v = 1 ∧ cOk t j ∧ ¬ bad (t.getD (cE t j) 0) ∧ sI s' 109 0 = Int32.ofNat (cE t j) ∧ sI s' 109 1 = Int32.ofNat (cW t j) ∧ sI s' 109 2 = Int32.ofNat (cK t j).2.1 ∧ sI s' 109 3 = Int32.ofNat (cFl t j)) ∨ (v = 0 ∧ (¬ cOk t j ∨ bad (t.getD (cE t j) 0)) ∧ ∃ e, sI s' 109 0 = Int32.ofNat e ∧ ((e = (cK t j).2.2 ∧ ((cK t j).1 = 0 ∨ isL (t.getD (cK t j).2.2 0))) ∨ e = cJ t j ∨ (e = cE t j ∧ rowB t (cJ t j))))) := by
  have hl := h.1.2.1
  have hdl := dlR_b (t := t) (i := j) hj
  -- the row
  have f54 : ∀ s2, KS s2 b t ns → ch a9 s s2 → sI s2 109 0 = Int32.ofNat (cJ t j) → sI s2 109 1 = Int32.ofNat 0 → sI s2 109 2 = Int32.ofNat (cK t j).2.1 → sI s2 109 3 = Int32.ofNat (cFl t j) → ¬ (cK t j).1 = 0 → ∃ v s', dm89_54 79 s2 = some (v, s') ∧ ch a9 s s' ∧ ((v = 1 ∧ cOk t j ∧ ¬ bad (t.getD (cE t j) 0) ∧ sI s' 109 0 = Int32.ofNat (cE t j) ∧ sI s' 109 1 = Int32.ofNat (cW t j) ∧ sI s' 109 2 = Int32.ofNat (cK t j).2.1 ∧ sI s' 109 3 = Int32.ofNat (cFl t j)) ∨ (v = 0 ∧ (¬ cOk t j ∨ bad (t.getD (cE t j) 0)) ∧ ∃ e, sI s' 109 0 = Int32.ofNat e ∧ ((e = (cK t j).2.2 ∧ ((cK t j).1 = 0 ∨ isL (t.getD (cK t j).2.2 0))) ∨ e = cJ t j ∨ (e = cE t j ∧ rowB t (cJ t j))))) := by
    intro s2 K2 g2 f0 f1 f2 f3 hn0
    have hKb := cK_b (t := t) hj
    have hJb : cJ t j ≤ t.length := (dlR_b (t := t) (i := (cK t j).2.2) hKb.2.2.2.1).1
    obtain ⟨v, s3, k1, k2, k3⟩ := x91l 7 0 0 (cJ t j) 5000 300 s2 K2 f0 f1 (by omega) (fun _ => rfl) (fun z => by omega) hJb (by omega) (by omega) (by omega)
    have k1 : dm91 79 s2 = some (v, s3) := k1
    have K3 := K2.of (b := b) (k2.mono fun a k z => by unfold AC; omega)
    have g3 : ch a9 s s3 := g2.trans (k2.mono fun a k z => z.1)
    unfold dm89_54
    rw [k1]
    simp only [bv_some]
    rcases k3 with ⟨a1, a2, a3, a4⟩ | ⟨a1, a2⟩
    · subst a1
      have hrb := a2 rfl
      have hok : cOk t j := ⟨hn0, hrb⟩
      have hEb := (cOk_b hj hok).2.2.2
      have a3 : sI s3 109 0 = Int32.ofNat (cE t j) := a3
      have a4 : sI s3 109 1 = Int32.ofNat (cW t j) := a4
      rw [if_neg (by decide), a3, x34 K3 (by omega)]
      simp only [bu_some, x92]
      have hbd : bad (t.getD (cE t j) (-1)) ↔ bad (t.getD (cE t j) 0) := gd_p bad_m bad_0
      by_cases cb : bad (t.getD (cE t j) (-1))
      · rw [if_neg (fun z => b01_ne.mp z cb), if_pos rfl]
        exact ⟨0, s3, rfl, g3, Or.inr ⟨rfl, Or.inr (hbd.mp cb), cE t j, a3, Or.inr (Or.inr ⟨rfl, hrb⟩)⟩⟩
      · rw [if_pos (b01_ne.mpr cb), if_neg (by decide)]
        refine ⟨1, s3, rfl, g3, Or.inl ⟨rfl, hok, fun z => cb (hbd.mpr z), a3, a4, (k2.i (by omega)).trans f2, (k2.i (by omega)).trans f3⟩⟩
    · subst a1
      rw [if_pos rfl]
      rcases a2 with ⟨-, a3, a4⟩ | ⟨a5, a3, a4⟩
      · exact ⟨0, s3, rfl, g3, Or.inr ⟨rfl, Or.inl (fun z => a3 z.2), cJ t j, a4, Or.inr (Or.inl rfl)⟩⟩
      · have a3 : isD (t.getD (cE t j) 0) := a3
        have a4 : sI s3 109 0 = Int32.ofNat (cE t j) := a4
        exact ⟨0, s3, rfl, g3, Or.inr ⟨rfl, Or.inr (Or.inl (Or.inr (Or.inl a3))), cE t j, a4, Or.inr (Or.inr ⟨rfl, a5 rfl⟩)⟩⟩
  -- the column
  have f30 : ∀ s2, KS s2 b t ns → ch a9 s s2 → sI s2 109 0 = Int32.ofNat (j + dlR t j) → sI s2 109 1 = Int32.ofNat 0 → sI s2 109 2 = Int32.ofNat 0 → sI s2 109 3 = Int32.ofNat (2 * dlR t j) → ∃ v s', dm89_30 79 s2 = some (v, s') ∧ ch a9 s s' ∧ ((v = 1 ∧ cOk t j ∧ ¬ bad (t.getD (cE t j) 0) ∧ sI s' 109 0 = Int32.ofNat (cE t j) ∧ sI s' 109 1 = Int32.ofNat (cW t j) ∧ sI s' 109 2 = Int32.ofNat (cK t j).2.1 ∧ sI s' 109 3 = Int32.ofNat (cFl t j)) ∨ (v = 0 ∧ (¬ cOk t j ∨ bad (t.getD (cE t j) 0)) ∧ ∃ e, sI s' 109 0 = Int32.ofNat e ∧ ((e = (cK t j).2.2 ∧ ((cK t j).1 = 0 ∨ isL (t.getD (cK t j).2.2 0))) ∨ e = cJ t j ∨ (e = cE t j ∧ rowB t (cJ t j))))) := by
    intro s2 K2 g2 f0 f1 f2 f3
    have hKb := cK_b (t := t) hj
    obtain ⟨v, s3, k1, k2, k3, k4⟩ := x90l 3 0 0 (j + dlR t j) 5000 s2 K2 f0 f2 (by omega) (by omega) (by omega) (by omega)
    have k1 : dm90 79 s2 = some (v, s3) := k1
    have k3 : sI s3 109 0 = Int32.ofNat (cK t j).2.2 := k3
    have k4 : (v = (if (cK t j).1 = 0 then 0 else 1) ∧ sI s3 109 2 = Int32.ofNat (cK t j).2.1) ∨ (v = 0 ∧ isL (t.getD (cK t j).2.2 0)) := k4
    have K3 := K2.of (b := b) (k2.mono fun a k z => by unfold AC; omega)
    have g3 : ch a9 s s3 := g2.trans (k2.mono fun a k z => z.1)
    have e1 : sI s3 109 1 = Int32.ofNat 0 := (k2.i (by omega)).trans f1
    have e3 : sI s3 109 3 = Int32.ofNat (2 * dlR t j) := (k2.i (by omega)).trans f3
    unfold dm89_30
    rw [k1]
    simp only [bv_some]
    rcases k4 with ⟨a1, a2⟩ | ⟨a1, a2⟩
    · by_cases c0 : (cK t j).1 = 0
      · rw [if_pos c0] at a1
        rw [if_pos a1]
        exact ⟨0, s3, rfl, g3, Or.inr ⟨rfl, Or.inl (fun z => z.1 c0), _, k3, Or.inl ⟨rfl, Or.inl c0⟩⟩⟩
      · rw [if_neg c0] at a1
        rw [if_neg (by rw [a1]; decide), k3, x34 K3 (by omega)]
        simp only [bu_some]
        by_cases cd : t.getD (cK t j).2.2 (-1) = 36
        · have cd0 : t.getD (cK t j).2.2 0 = 36 := (gd_eq (by decide) (by decide)).mp cd
          have ed : dlR t (cK t j).2.2 = 1 := if_pos cd0
          rw [if_pos cd, e3]
          simp only [nx_eq]
          have e0 : sI (wI s3 109 3 (Int32.ofNat (2 * dlR t j) + 1)) 109 0 = Int32.ofNat (cK t j).2.2 := by rw [sI_wI, if_neg (by omega)]; exact k3
          rw [e0, ofNat_succ (by omega), ofNat_succ (by omega)]
          have g4 : ch a9 s3 (wI (wI s3 109 3 (Int32.ofNat (2 * dlR t j + 1))) 109 0 (Int32.ofNat ((cK t j).2.2 + 1))) := ((ch.refl a9 s3).wI rfl).wI rfl
          refine f54 _ (K3.of (b := b) (g4.mono fun a k z => a9C z)) (g3.trans g4) ?_ ?_ ?_ ?_ c0
          · rw [sI_wI, if_pos ⟨rfl, rfl⟩]
            unfold cJ
            rw [ed]
          · rw [sI_wI, if_neg (by omega), sI_wI, if_neg (by omega)]
            exact e1
          · rw [sI_wI, if_neg (by omega), sI_wI, if_neg (by omega)]
            exact a2
          · rw [sI_wI, if_neg (by omega), sI_wI, if_pos ⟨rfl, rfl⟩]
            unfold cFl
            rw [ed]
        · have cd0 : ¬ t.getD (cK t j).2.2 0 = 36 := fun z => cd ((gd_eq (by decide) (by decide)).mpr z)
          have ed : dlR t (cK t j).2.2 = 0 := if_neg cd0
          rw [if_neg cd]
          refine f54 s3 K3 g3 ?_ e1 a2 ?_ c0
          · rw [k3]
            unfold cJ
            rw [ed, Nat.add_zero]
          · rw [e3]
            unfold cFl
            rw [ed, Nat.add_zero]
    · rw [if_pos a1]
      refine ⟨0, s3, rfl, g3, Or.inr ⟨rfl, Or.inl (fun z => ?_), _, k3, Or.inl ⟨rfl, Or.inr a2⟩⟩⟩
      have n36 : ¬ t.getD (cK t j).2.2 0 = 36 := fun q => by
        rw [q] at a2
        unfold isL at a2
        exact absurd a2 (by decide)
      have ed : dlR t (cK t j).2.2 = 0 := if_neg n36
      have hz := z.2.1
      unfold cJ at hz
      rw [ed, Nat.add_zero] at hz
      exact L_D a2 hz
  unfold dm89
  simp only [nx_eq]
  let s4 := wI (wI (wI (wI s 109 0 (Int32.ofNat j)) 109 1 0) 109 2 0) 109 3 0
  have g4 : ch a9 s s4 := ((((ch.refl a9 s).wI rfl).wI rfl).wI rfl).wI rfl
  have K4 := h.of (b := b) (g4.mono fun a k z => a9C z)
  have q0 : sI s4 109 0 = Int32.ofNat j := by
    show sI (wI (wI (wI (wI s 109 0 (Int32.ofNat j)) 109 1 0) 109 2 0) 109 3 0) 109 0 = _
    rw [sI_wI, if_neg (by omega), sI_wI, if_neg (by omega), sI_wI, if_neg (by omega), sI_wI, if_pos ⟨rfl, rfl⟩]
  have q1 : sI s4 109 1 = Int32.ofNat 0 := by
    show sI (wI (wI (wI (wI s 109 0 (Int32.ofNat j)) 109 1 0) 109 2 0) 109 3 0) 109 1 = _
    rw [sI_wI, if_neg (by omega), sI_wI, if_neg (by omega), sI_wI, if_pos ⟨rfl, rfl⟩]
    rfl
  have q2 : sI s4 109 2 = Int32.ofNat 0 := by
    show sI (wI (wI (wI (wI s 109 0 (Int32.ofNat j)) 109 1 0) 109 2 0) 109 3 0) 109 2 = _
    rw [sI_wI, if_neg (by omega), sI_wI, if_pos ⟨rfl, rfl⟩]
    rfl
  have q3 : sI s4 109 3 = Int32.ofNat 0 := by
    show sI (wI (wI (wI (wI s 109 0 (Int32.ofNat j)) 109 1 0) 109 2 0) 109 3 0) 109 3 = _
    rw [sI_wI, if_pos ⟨rfl, rfl⟩]
    rfl
  show ∃ v s', bu (dm34 79 (sI s4 109 0) s4) _ = some (v, s') ∧ _
  rw [q0, x34 K4 (by omega)]
  simp only [bu_some]
  by_cases cd : t.getD j (-1) = 36
  · have cd0 : t.getD j 0 = 36 := (gd_eq (by decide) (by decide)).mp cd
    have ed : dlR t j = 1 := if_pos cd0
    rw [if_pos cd]
    have e3 : sI s4 109 3 + 2 = Int32.ofNat 2 := by rw [q3]; rfl
    show ∃ v s', dm89_30 79 (wI (wI s4 109 3 (sI s4 109 3 + 2)) 109 0 (sI (wI s4 109 3 (sI s4 109 3 + 2)) 109 0 + 1)) = some (v, s') ∧ _
    have e0 : sI (wI s4 109 3 (sI s4 109 3 + 2)) 109 0 = Int32.ofNat j := by rw [sI_wI, if_neg (by omega)]; exact q0
    rw [e0, e3, ofNat_succ (by omega)]
    have g5 : ch a9 s4 (wI (wI s4 109 3 (Int32.ofNat 2)) 109 0 (Int32.ofNat (j + 1))) := ((ch.refl a9 s4).wI rfl).wI rfl
    refine f30 _ (K4.of (b := b) (g5.mono fun a k z => a9C z)) (g4.trans g5) ?_ ?_ ?_ ?_
    · rw [sI_wI, if_pos ⟨rfl, rfl⟩, ed]
    · rw [sI_wI, if_neg (by omega), sI_wI, if_neg (by omega)]
      exact q1
    · rw [sI_wI, if_neg (by omega), sI_wI, if_neg (by omega)]
      exact q2
    · rw [sI_wI, if_neg (by omega), sI_wI, if_pos ⟨rfl, rfl⟩, ed]
  · have cd0 : ¬ t.getD j 0 = 36 := fun z => cd ((gd_eq (by decide) (by decide)).mpr z)
    have ed : dlR t j = 0 := if_neg cd0
    rw [if_neg cd]
    exact f30 s4 K4 g4 (by rw [ed, Nat.add_zero]; exact q0) q1 q2 (by rw [ed]; exact q3)
end XX
