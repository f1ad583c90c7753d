/-! rows put in or taken out, a node, in the reference -/
def fB (x k n : Int32) : Int32 := if k ≤ x then (if n < 0 then (if (k - n) ≤ x then x + n else k) else x + n) else x
def lB (x k n m : Int32) : Int32 := if k ≤ x then (if 0 ≤ n then (if (x + n) ≤ m then x + n else m) else (if (k - n) ≤ x then x + n else k - 1)) else x
set_option maxRecDepth 100000 in
theorem d229 (x k n : Int32) : dm229 x k n = some (fB x k n) := by
  unfold dm229 fB
  split
  · split
    · split <;> rfl
    · rfl
  · rfl
set_option maxRecDepth 100000 in
theorem d230 (x k n m : Int32) : dm230 x k n m = some (lB x k n m) := by
  unfold dm230 lB
  split
  · split
    · split <;> rfl
    · split <;> rfl
  · rfl
def wA (t : Int32) : Nat := if t = 0 then 4 else 3
def wB (t : Int32) : Nat := if t = 0 then 6 else 5
/-- is a node on the sheet -/
def onS (x ho : Int32) (d : Nd) : Prop := (0 ≤ d 2 ∧ d 2 = x) ∨ (¬ 0 ≤ d 2 ∧ ho = x)
def loS (t k n m : Int32) (d : Nd) : Prop := lB (d (wB t)) k n m < fB (d (wA t)) k n ∨ ¬ fB (d (wA t)) k n ≤ m
set_option maxRecDepth 100000 in
noncomputable def shM (x t k n m ho : Int32) (d : Nd) : Nd := if b01 (isRf d ∧ onS x ho d) = 0 then d else if b01 (loS t k n m d) = 0 then setN (setN d (wA t) (fB (d (wA t)) k n)) (wB t) (lB (d (wB t)) k n m) else loM d
set_option maxRecDepth 100000 in
noncomputable def shC (x t k n m ho : Int32) (d : Nd) (c : Int32) : Int32 := if b01 (isRf d ∧ onS x ho d) = 0 then c else if b01 (loS t k n m d) = 0 then c else c + 1
set_option maxRecDepth 100000 in
theorem RI.setw {s : aS} {p w : Nat} {d : Nd} {v : Int32} (h : RI s p d) : RI (wI s (128 + w) p v) p (setN d w v) := h.set
set_option maxRecDepth 100000 in
theorem d228e {s : aS} {p : Nat} {d : Nd} {x t k n m c f : Int32} {k36 : Int32 → Int32 → Int32 → Int32 → Int32 → Int32 → Int32 → aS → Option (Int32 × aS)} {k43 : Int32 → Int32 → Int32 → Int32 → Int32 → Int32 → Int32 → Int32 → aS → Option (Int32 × aS)} (hp : p < 1152) (h : RI s p d) : ∃ s', dm228_89 k36 k43 x t k n m c f (Int32.ofNat p) 1 s = k43 x t k n m (if b01 (loS t k n m d) = 0 then c else c + 1) f (Int32.ofNat (p + 1)) s' ∧ RI s' p (if b01 (loS t k n m d) = 0 then setN (setN d (wA t) (fB (d (wA t)) k n)) (wB t) (lB (d (wB t)) k n m) else loM d) ∧ ch (fun a q => (128 ≤ a ∧ a ≤ 136) ∧ q = p) s s' := by
  have hb : aB (Int32.ofNat p) 1152 := by rw [aB_iff, iOfNat (by omega)]; omega
  have ej : jN (Int32.ofNat p) = p := jN_of (by omega)
  have r3 : sI s 131 p = d 3 := h 3 (by omega)
  have r4 : sI s 132 p = d 4 := h 4 (by omega)
  have r5 : sI s 133 p = d 5 := h 5 (by omega)
  have r6 : sI s 134 p = d 6 := h 6 (by omega)
  have lost : ∀ a9 b9 : Int32, ∃ s', dm228_129 k36 k43 x t k n m c f (Int32.ofNat p) a9 b9 s = k43 x t k n m (c + 1) f (Int32.ofNat (p + 1)) s' ∧ RI s' p (loM d) ∧ ch (fun a q => (128 ≤ a ∧ a ≤ 136) ∧ q = p) s s' := by
    intro a9 b9
    obtain ⟨s', g1, g2, g3⟩ := d183 (s := s) hp
    unfold dm228_129 dm228_132 dm228_163
    rw [if_neg (by decide), g1]
    simp only [bu_some]
    rw [ofNat_succ (by omega)]
    refine ⟨s', rfl, fun w hw => ?_, g3⟩
    rw [g2 w hw]
    unfold loM
    by_cases q : w = 1
    · rw [if_pos q, if_pos q]
      exact h 1 (by omega)
    · rw [if_neg q, if_neg q]
  unfold dm228_89 dm228_103 dm228_118
  rw [if_neg (show ¬ (1 : Int32) = 0 by decide)]
  simp only [if_pos hb, ej, r3, r4, r5, r6, d229, d230, bu_some]
  by_cases ht : t = 0
  · have eA : wA t = 4 := if_pos ht
    have eB : wB t = 6 := if_pos ht
    rw [if_pos ht, if_pos ht]
    unfold loS
    rw [eA, eB]
    by_cases c1 : lB (d 6) k n m < fB (d 4) k n
    · rw [if_pos c1, b01_t (Or.inl c1), if_neg (by decide), if_neg (by decide)]
      exact lost _ _
    · rw [if_neg c1]
      by_cases c2 : fB (d 4) k n ≤ m
      · rw [if_pos c2, b01_f (fun q => q.elim c1 (fun z => z c2)), if_pos rfl, if_pos rfl]
        unfold dm228_132 dm228_163
        rw [if_pos rfl, if_pos ht]
        simp only [if_pos hb, nx_eq, ej]
        rw [ofNat_succ (by omega)]
        exact ⟨_, rfl, (h.setw (w := 4)).setw (w := 6), ((ch.refl _ s).wI (by omega)).wI (by omega)⟩
      · rw [if_neg c2, b01_t (Or.inr c2), if_neg (by decide), if_neg (by decide)]
        exact lost _ _
  · have eA : wA t = 3 := if_neg ht
    have eB : wB t = 5 := if_neg ht
    rw [if_neg ht, if_neg ht]
    unfold loS
    rw [eA, eB]
    by_cases c1 : lB (d 5) k n m < fB (d 3) k n
    · rw [if_pos c1, b01_t (Or.inl c1), if_neg (by decide), if_neg (by decide)]
      exact lost _ _
    · rw [if_neg c1]
      by_cases c2 : fB (d 3) k n ≤ m
      · rw [if_pos c2, b01_f (fun q => q.elim c1 (fun z => z c2)), if_pos rfl, if_pos rfl]
        unfold dm228_132 dm228_163
        rw [if_pos rfl, if_neg ht]
        simp only [if_pos hb, nx_eq, ej]
        rw [ofNat_succ (by omega)]
        exact ⟨_, rfl, (h.setw (w := 3)).setw (w := 5), ((ch.refl _ s).wI (by omega)).wI (by omega)⟩
      · rw [if_neg c2, b01_t (Or.inr c2), if_neg (by decide), if_neg (by decide)]
        exact lost _ _
set_option maxRecDepth 100000 in
theorem d228n {s : aS} {f p N : Nat} {d : Nd} {x t k n m c ho : Int32} {k36 : Int32 → Int32 → Int32 → Int32 → Int32 → Int32 → Int32 → aS → Option (Int32 × aS)} (hf : f < 8) (hp : p < 1152) (h : RI s p d) (hh : sI s 126 f = ho) : ∃ s', (if (sI s 128 p) = 4 then dm228_70 k36 (dm228_43 k36 N) x t k n m c (Int32.ofNat f) (Int32.ofNat p) s else if (sI s 128 p) = 5 then dm228_70 k36 (dm228_43 k36 N) x t k n m c (Int32.ofNat f) (Int32.ofNat p) s else dm228_88 k36 (dm228_43 k36 N) x t k n m c (Int32.ofNat f) (Int32.ofNat p) s) = dm228_43 k36 N x t k n m (shC x t k n m ho d c) (Int32.ofNat f) (Int32.ofNat (p + 1)) s' ∧ RI s' p (shM x t k n m ho d) ∧ ch (fun a q => (128 ≤ a ∧ a ≤ 136) ∧ q = p) s s' := by
  have hb : aB (Int32.ofNat p) 1152 := by rw [aB_iff, iOfNat (by omega)]; omega
  have ej : jN (Int32.ofNat p) = p := jN_of (by omega)
  have hbf : aB (Int32.ofNat f) 8 := by rw [aB_iff, iOfNat (by omega)]; omega
  have ejf : jN (Int32.ofNat f) = f := jN_of (by omega)
  have r0 : sI s 128 p = d 0 := h 0 (by omega)
  have r2 : sI s 130 p = d 2 := h 2 (by omega)
  have no : ¬ (isRf d ∧ onS x ho d) → ∃ s', dm228_88 k36 (dm228_43 k36 N) x t k n m c (Int32.ofNat f) (Int32.ofNat p) s = dm228_43 k36 N x t k n m (shC x t k n m ho d c) (Int32.ofNat f) (Int32.ofNat (p + 1)) s' ∧ RI s' p (shM x t k n m ho d) ∧ ch (fun a q => (128 ≤ a ∧ a ≤ 136) ∧ q = p) s s' := by
    intro q
    unfold dm228_88 dm228_89 dm228_163 shC shM
    rw [if_pos rfl, b01_f q, if_pos rfl, if_pos rfl, ofNat_succ (by omega)]
    exact ⟨s, rfl, h, ch.refl _ s⟩
  have yes : isRf d → ∃ s', dm228_70 k36 (dm228_43 k36 N) x t k n m c (Int32.ofNat f) (Int32.ofNat p) s = dm228_43 k36 N x t k n m (shC x t k n m ho d c) (Int32.ofNat f) (Int32.ofNat (p + 1)) s' ∧ RI s' p (shM x t k n m ho d) ∧ ch (fun a q => (128 ≤ a ∧ a ≤ 136) ∧ q = p) s s' := by
    intro hr
    have at84 : ∀ y : Int32, (y = x ↔ onS x ho d) → ∃ s', dm228_84 k36 (dm228_43 k36 N) x t k n m c (Int32.ofNat f) (Int32.ofNat p) y s = dm228_43 k36 N x t k n m (shC x t k n m ho d c) (Int32.ofNat f) (Int32.ofNat (p + 1)) s' ∧ RI s' p (shM x t k n m ho d) ∧ ch (fun a q => (128 ≤ a ∧ a ≤ 136) ∧ q = p) s s' := by
      intro y hy
      unfold dm228_84
      by_cases q : y = x
      · rw [if_pos q]
        obtain ⟨s', g1, g2, g3⟩ := d228e (x := x) (t := t) (k := k) (n := n) (m := m) (c := c) (f := Int32.ofNat f) (k36 := k36) (k43 := dm228_43 k36 N) hp h
        refine ⟨s', ?_, ?_, g3⟩
        · rw [g1]
          unfold shC
          rw [b01_t (p := isRf d ∧ onS x ho d) ⟨hr, hy.mp q⟩, if_neg (show ¬ (1 : Int32) = 0 by decide)]
        · unfold shM
          rw [b01_t (p := isRf d ∧ onS x ho d) ⟨hr, hy.mp q⟩, if_neg (show ¬ (1 : Int32) = 0 by decide)]
          exact g2
      · rw [if_neg q]
        exact no fun z => q (hy.mpr z.2)
    unfold dm228_70
    simp only [if_pos hb, if_pos hbf, ej, ejf, r2, hh]
    by_cases q : 0 ≤ d 2
    · rw [if_pos q]
      exact at84 (d 2) ⟨fun z => Or.inl ⟨q, z⟩, fun z => by
        rcases z with z | z
        · exact z.2
        · exact absurd q z.1⟩
    · rw [if_neg q]
      exact at84 ho ⟨fun z => Or.inr ⟨q, z⟩, fun z => by
        rcases z with z | z
        · exact absurd z.1 q
        · exact z.2⟩
  rw [r0]
  by_cases c4 : d 0 = 4
  · rw [if_pos c4]
    exact yes (Or.inl c4)
  · rw [if_neg c4]
    by_cases c5 : d 0 = 5
    · rw [if_pos c5]
      exact yes (Or.inr c5)
    · rw [if_neg c5]
      refine no fun z => ?_
      rcases z.1 with q | q
      · exact c4 q
      · exact c5 q
set_option maxRecDepth 100000 in
/-- how many nodes are lost -/
noncomputable def scM (x t k n m ho : Int32) (F : Nat → Nd) : Nat → Nat → Int32 → Int32
  | 0, _, c => c
  | q + 1, j, c => scM x t k n m ho F q (j + 1) (shC x t k n m ho (F j) c)
set_option maxRecDepth 100000 in
theorem d228l {f N : Nat} {x t k n m ho : Int32} {F : Nat → Nd} {k36 : Int32 → Int32 → Int32 → Int32 → Int32 → Int32 → Int32 → aS → Option (Int32 × aS)} (hf : f < 8) : ∀ (q j z : Nat) (c : Int32) (s : aS), j + q = N → q < z → sI s 125 f = 1 → sI s 126 f = ho → TG s f N (fun i => if i < j then shM x t k n m ho (F i) else F i) → ∃ s', dm228_43 k36 z x t k n m c (Int32.ofNat f) (Int32.ofNat (128 * f + j)) s = k36 x t k n m (scM x t k n m ho F q j c) (Int32.ofNat (f + 1)) s' ∧ TG s' f N (fun i => shM x t k n m ho (F i)) ∧ ch (fun a q => (128 ≤ a ∧ a ≤ 136) ∧ 128 * f ≤ q ∧ q < 128 * f + N) s s' := by
  intro q
  induction q with
  | zero =>
    intro j z c s hj hz h1 h2 h
    obtain ⟨z, rfl⟩ : ∃ a, z = a + 1 := ⟨z - 1, by omega⟩
    have h8 := h.2.1
    have ejf : jN (Int32.ofNat f) = f := jN_of (by omega)
    have b8 : aB (Int32.ofNat f) 8 := by rw [aB_iff, iOfNat (by omega)]; omega
    have b9 : aB (Int32.ofNat f) 9 := by rw [aB_iff, iOfNat (by omega)]; omega
    rw [dm228_43]
    simp only [if_pos b8, if_pos b9, ejf, h1, h.1]
    rw [if_neg (by decide), i128 (by omega) (by omega), if_pos (by rw [iLe, iOfNat (by omega), iOfNat (by omega)]; omega)]
    unfold dm228_165
    rw [ofNat_succ (by omega)]
    exact ⟨s, rfl, h.cg fun i hi w hw => by show (if i < j then shM x t k n m ho (F i) else F i) w = _; rw [if_pos (by omega)], ch.refl _ s⟩
  | succ q ih =>
    intro j z c s hj hz h1 h2 h
    obtain ⟨z, rfl⟩ : ∃ a, z = a + 1 := ⟨z - 1, by omega⟩
    have h8 := h.2.1
    have ejf : jN (Int32.ofNat f) = f := jN_of (by omega)
    have b8 : aB (Int32.ofNat f) 8 := by rw [aB_iff, iOfNat (by omega)]; omega
    have b9 : aB (Int32.ofNat f) 9 := by rw [aB_iff, iOfNat (by omega)]; omega
    have hp : aB (Int32.ofNat (128 * f + j)) 1152 := by rw [aB_iff, iOfNat (by omega)]; omega
    have ep : jN (Int32.ofNat (128 * f + j)) = 128 * f + j := jN_of (by omega)
    have hr : RI s (128 * f + j) (F j) := fun w hw => by
      have := h.2.2 j (by omega) w hw
      have : sI s (128 + w) (128 * f + j) = (if j < j then shM x t k n m ho (F j) else F j) w := this
      rw [if_neg (by omega)] at this
      exact this
    obtain ⟨s1, g1, g2, g3⟩ := d228n (N := z) (x := x) (t := t) (k := k) (n := n) (m := m) (c := c) (k36 := k36) hf (by omega) hr h2
    rw [dm228_43]
    simp only [if_pos b8, if_pos b9, if_pos hp, ejf, ep, h1, h.1]
    rw [if_neg (by decide), i128 (by omega) (by omega), if_neg (by rw [iLe, iOfNat (by omega), iOfNat (by omega)]; omega), g1]
    have t1 := h.up (g := shM x t k n m ho (F j)) (by omega : j < N) g2 g3
    obtain ⟨s', a1, a2, a3⟩ := ih (j + 1) z (shC x t k n m ho (F j) c) s1 (by omega) (by omega) ((g3.i (by omega)).trans h1) ((g3.i (by omega)).trans h2) (t1.cg fun i hi w hw => by
      show (if i = j then shM x t k n m ho (F j) else if i < j then shM x t k n m ho (F i) else F i) w = (if i < j + 1 then shM x t k n m ho (F i) else F i) w
      by_cases e : i = j
      · subst e
        rw [if_pos rfl, if_pos (by omega)]
      · rw [if_neg e]
        by_cases e2 : i < j
        · rw [if_pos e2, if_pos (by omega)]
        · rw [if_neg e2, if_neg (by omega)])
    exact ⟨s', a1, a2, (g3.mono fun a q z => by omega).trans a3⟩
