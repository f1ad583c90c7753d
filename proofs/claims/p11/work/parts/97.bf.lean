/-! whole cells, as the reference reads them -/
def dlR (t : List Int32) (i : Nat) : Nat := if t.getD i 0 = 36 then 1 else 0
def rowB (t : List Int32) (j : Nat) : Prop := isD (t.getD j 0) ∧ ¬ t.getD j 0 = 48
set_option maxRecDepth 100000 in
theorem dlR_b {t : List Int32} {i : Nat} (hi : i ≤ t.length) : i + dlR t i ≤ t.length ∧ dlR t i ≤ 1 := by
  unfold dlR
  by_cases c : t.getD i 0 = 36
  · rw [if_pos c]
    have : i < t.length := in_of (p := fun x => x = 36) (d := 0) (by decide) c
    omega
  · rw [if_neg c]
    omega
set_option maxRecDepth 100000 in
theorem d208b {s : aS} {r : Nat → Int32} {t : List Int32} {c f : Int32} {j : Nat} (h : TX s r t) (hj : j ≤ t.length) : dm208_18 (wP s (cR r 0 c f) j) = some (if b01 (rowB t j) = 0 then wP s (setN (cR r 0 c f) 27 1) j else wP s (cR r (Int32.ofNat (rwG t 300 j 0).1) c f) (rwG t 300 j 0).2) := by
  have hl := h.1
  unfold dm208_18 dm208_30
  simp only [wP_at, rch (h.cr 0 c f) (show j < 100000 by omega), bu_some, d196, d186]
  by_cases g : isD (t.getD j 0)
  · rw [if_neg (fun q => b01_ne.mp q g)]
    by_cases g2 : t.getD j 0 = 48
    · rw [if_pos g2, if_pos (b01_ne.mpr (fun q => q.2 g2))]
    · rw [if_neg g2, if_neg (fun q => b01_ne.mp q ⟨g, g2⟩)]
      exact d208l h 300 j 0 5000 (by omega) hj (by omega) (by omega)
  · rw [if_pos (b01_ne.mpr g), if_pos (b01_ne.mpr (fun q => g q.1))]
set_option maxRecDepth 100000 in
theorem d208 {s : aS} {r : Nat → Int32} {t : List Int32} {c : Int32} {i fl : Nat} (h : TX s r t) (hi : i ≤ t.length) (hf : fl ≤ 100) : dm208 (wP s (cR r 0 c (Int32.ofNat fl)) i) = some (if b01 (rowB t (i + dlR t i)) = 0 then wP s (setN (cR r 0 c (Int32.ofNat (fl + dlR t i))) 27 1) (i + dlR t i) else wP s (cR r (Int32.ofNat (rwG t 300 (i + dlR t i) 0).1) c (Int32.ofNat (fl + dlR t i))) (rwG t 300 (i + dlR t i) 0).2) := by
  have hl := h.1
  have hb := dlR_b hi
  rw [← d208b h hb.1]
  unfold dm208
  simp only [wP_at, rch (h.cr 0 c (Int32.ofNat fl)) (show i < 100000 by omega), bu_some]
  unfold dlR
  by_cases g : t.getD i 0 = 36
  · rw [if_pos g, if_pos g, nx_eq, wP_f (by decide), cR_f, ofNat_succ (by omega), wP_set (by decide), cR_41, nx_eq, wP_at, ofNat_succ (by omega), wP_go]
  · rw [if_neg g, if_neg g]
    rfl
set_option maxRecDepth 100000 in
/-- where a cell's letters begin, what they are, where its digits begin, whether it is one -/
noncomputable def cK (t : List Int32) (i : Nat) : Nat × Nat × Nat := clG t 3 (i + dlR t i) 0 0
set_option maxRecDepth 100000 in
noncomputable def cJ (t : List Int32) (i : Nat) : Nat := (cK t i).2.2 + dlR t (cK t i).2.2
def cOk (t : List Int32) (i : Nat) : Prop := ¬ (cK t i).1 = 0 ∧ rowB t (cJ t i)
set_option maxRecDepth 100000 in
noncomputable def cFl (t : List Int32) (i : Nat) : Nat := 2 * dlR t i + dlR t (cK t i).2.2
set_option maxRecDepth 100000 in
noncomputable def cW (t : List Int32) (i : Nat) : Nat := (rwG t 300 (cJ t i) 0).1
set_option maxRecDepth 100000 in
noncomputable def cE (t : List Int32) (i : Nat) : Nat := (rwG t 300 (cJ t i) 0).2
set_option maxRecDepth 100000 in
noncomputable def cB (t : List Int32) (i : Nat) : Nat := if (cK t i).1 = 0 then (cK t i).2.2 else cJ t i
set_option maxRecDepth 100000 in
theorem cK_b {t : List Int32} {i : Nat} (hi : i ≤ t.length) : (cK t i).1 ≤ 3 ∧ (cK t i).2.1 ≤ 16384 ∧ i ≤ (cK t i).2.2 ∧ (cK t i).2.2 ≤ t.length ∧ (0 < (cK t i).1 → 1 ≤ (cK t i).2.1) := by
  have hb := dlR_b hi
  obtain ⟨a1, a2, a3, a4, a5, a6, a7, -⟩ := clG_b (t := t) 3 (i + dlR t i) 0 0 hb.1 (by omega)
  unfold cK
  exact ⟨by omega, a3, by omega, a5, a7⟩
set_option maxRecDepth 100000 in
theorem cB_b {t : List Int32} {i : Nat} (hi : i ≤ t.length) : cB t i ≤ t.length := by
  obtain ⟨a1, a2, a3, a4, a5⟩ := cK_b hi
  have := dlR_b a4
  unfold cB cJ
  split <;> omega
set_option maxRecDepth 100000 in
theorem rw_pos {t : List Int32} {j : Nat} (h : rowB t j) : j < t.length ∧ 1 ≤ (rwG t 300 j 0).1 ∧ j < (rwG t 300 j 0).2 := by
  obtain ⟨h1, h2⟩ := h
  have hj := in_of isD0 h1
  have hd : 48 ≤ (t.getD j 0).toInt ∧ (t.getD j 0).toInt ≤ 57 := h1
  have h3 : ¬ (t.getD j 0).toInt = 48 := fun q => h2 (iEq.mpr q)
  have hv : 1 ≤ dv (t.getD j 0) ∧ dv (t.getD j 0) ≤ 9 := by unfold dv; omega
  obtain ⟨a1, a2, a3, a4⟩ := rwG_b (t := t) 299 (j + 1) (10 * 0 + dv (t.getD j 0)) (by omega) (by omega)
  have e : rwG t 300 j 0 = rwG t 299 (j + 1) (10 * 0 + dv (t.getD j 0)) := by
    rw [show (300 : Nat) = 299 + 1 from rfl, rwG, if_neg (fun q => b01_ne.mp q h1), if_neg (by omega)]
  rw [e]
  exact ⟨hj, by omega, by omega⟩
set_option maxRecDepth 100000 in
theorem cOk_b {t : List Int32} {i : Nat} (hi : i ≤ t.length) (h : cOk t i) : (1 ≤ cW t i ∧ cW t i ≤ 1048576) ∧ (1 ≤ (cK t i).2.1 ∧ (cK t i).2.1 ≤ 16384) ∧ cFl t i ≤ 3 ∧ i < cE t i ∧ cE t i ≤ t.length := by
  obtain ⟨a1, a2, a3, a4, a5⟩ := cK_b hi
  have hd := dlR_b a4
  have hd0 := dlR_b hi
  obtain ⟨b1, b2, b3⟩ := rw_pos h.2
  have hJ : cJ t i = (cK t i).2.2 + dlR t (cK t i).2.2 := rfl
  obtain ⟨c1, c2, c3, c4⟩ := rwG_b (t := t) 300 (cJ t i) 0 (by omega) (by omega)
  have h0 := h.1
  unfold cW cE cFl
  exact ⟨⟨b2, c2⟩, ⟨a5 (by omega), a2⟩, by omega, by omega, c4⟩
set_option maxRecDepth 100000 in
theorem d207 {s : aS} {r : Nat → Int32} {t : List Int32} {i : Nat} (h : TX s r t) (hi : i ≤ t.length) : (¬ cOk t i ∧ ∃ c f, dm207 (wP s r i) = some (wP s (setN (cR r 0 c f) 27 1) (cB t i))) ∨ (cOk t i ∧ dm207 (wP s r i) = some (wP s (cR r (Int32.ofNat (cW t i)) (Int32.ofNat (cK t i).2.1) (Int32.ofNat (cFl t i))) (cE t i))) := by
  have hl := h.1
  have hb := dlR_b hi
  obtain ⟨a1, a2, a3, a4, a5⟩ := cK_b hi
  have e0 : dm207 (wP s r i) = dm207_26 5000 (Int32.ofNat 0) (wP s (cR r 0 (Int32.ofNat 0) (Int32.ofNat (2 * dlR t i))) (i + dlR t i)) := by
    unfold dm207 dm207_24
    simp only [nx_eq]
    rw [wP_set (by decide), wP_set (by decide), wP_set (by decide)]
    have e1 : setN (setN (setN r 41 0) 40 0) 39 0 = cR r 0 0 0 := rfl
    rw [e1]
    simp only [wP_at, rch (h.cr 0 0 0) (show i < 100000 by omega), bu_some]
    unfold dlR
    by_cases g : t.getD i 0 = 36
    · rw [if_pos g, if_pos g, wP_set (by decide), cR_41, wP_at, ofNat_succ (by omega), wP_go]
      rfl
    · rw [if_neg g, if_neg g]
      rfl
  rw [e0, d207l h 3 (i + dlR t i) 0 0 5000 rfl hb.1 (by omega) (by omega)]
  show (¬ cOk t i ∧ ∃ c f, dm207_71 (Int32.ofNat (cK t i).1) (wP s (cR r 0 (Int32.ofNat (cK t i).2.1) (Int32.ofNat (2 * dlR t i))) (cK t i).2.2) = some (wP s (setN (cR r 0 c f) 27 1) (cB t i))) ∨ (cOk t i ∧ dm207_71 (Int32.ofNat (cK t i).1) (wP s (cR r 0 (Int32.ofNat (cK t i).2.1) (Int32.ofNat (2 * dlR t i))) (cK t i).2.2) = some (wP s (cR r (Int32.ofNat (cW t i)) (Int32.ofNat (cK t i).2.1) (Int32.ofNat (cFl t i))) (cE t i)))
  unfold dm207_71
  by_cases g : (cK t i).1 = 0
  · left
    refine ⟨fun q => q.1 g, Int32.ofNat (cK t i).2.1, Int32.ofNat (2 * dlR t i), ?_⟩
    rw [if_pos (show Int32.ofNat (cK t i).1 = 0 by rw [g]; rfl), wP_at, d186]
    unfold cB
    rw [if_pos g]
    rfl
  · rw [if_neg (show ¬ Int32.ofNat (cK t i).1 = 0 from fun q => g ((neq_iff (b := 0) (by omega) (by omega)).mp q)), d208 h a4 (by omega)]
    simp only [bu_some]
    by_cases g2 : rowB t ((cK t i).2.2 + dlR t (cK t i).2.2)
    · right
      refine ⟨⟨g, g2⟩, ?_⟩
      rw [if_neg (fun q => b01_ne.mp q g2)]
      rfl
    · left
      refine ⟨fun q => g2 q.2, Int32.ofNat (cK t i).2.1, Int32.ofNat (2 * dlR t i + dlR t (cK t i).2.2), ?_⟩
      rw [if_pos (b01_ne.mpr g2)]
      unfold cB
      rw [if_neg g]
      rfl
