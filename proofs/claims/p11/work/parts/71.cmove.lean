/-! a node moved, in FormulaTrees -/
def CR (s : aS) (b i : Nat) (d : Nd) : Prop := ∀ w, w < 9 → sI s (b + 1) (11 * i + w) = d w
set_option maxRecDepth 100000 in
theorem CR.set {s : aS} {b i w : Nat} {d : Nd} {v : Int32} (h : CR s b i d) (hw : w < 11) : CR (wI s (b + 1) (11 * i + w) v) b i (setN d w v) := by
  intro k hk
  rw [sI_wI]
  unfold setN
  by_cases e : k = w
  · rw [if_pos ⟨rfl, by omega⟩, if_pos e]
  · rw [if_neg (by omega), if_neg e]
    exact h k hk
/-- which bit of the $s belongs to a number -/
def bitC (d : Nd) (w : Nat) : Int32 := if w = 3 then 1 else if w = 4 then 2 else if w = 5 then (if d 0 = 4 then 1 else 4) else (if d 0 = 4 then 2 else 8)
set_option maxRecDepth 100000 in
theorem d131 {s : aS} {b n i w : Nat} {d : Nd} (hn : sI s b 2 = Int32.ofNat n) (h8 : n ≤ 128) (hi : i < n) (h : CR s b i d) (hw : 3 ≤ w ∧ w ≤ 6) : dm131 b (Int32.ofNat i) (Int32.ofNat w) s = some (if (d 7 &&& bitC d w) = 0 then 0 else 1) := by
  have f0 : dm57 b (Int32.ofNat i) 0 s = some (d 0) := (d57 (w := 0) hn h8 hi (by omega)).trans (by rw [h 0 (by omega)])
  have f7 : dm57 b (Int32.ofNat i) 7 s = some (d 7) := (d57 (w := 7) hn h8 hi (by omega)).trans (by rw [h 7 (by omega)])
  have z : ∀ y0 y1 : Int32, dm131_33 b (Int32.ofNat i) y0 y1 s = some (if (d 7 &&& (y0 * y1)) = 0 then 0 else 1) := by
    intro y0 y1
    unfold dm131_33
    rw [f7]
    simp only [bu_some]
    split <;> rfl
  have b3 : bitC d 3 = 1 := rfl
  have b4 : bitC d 4 = 2 := rfl
  have b5 : bitC d 5 = if d 0 = 4 then 1 else 4 := rfl
  have b6 : bitC d 6 = if d 0 = 4 then 2 else 8 := rfl
  have c12 : ∀ (x2 y0 : Int32), dm131_12 b (Int32.ofNat i) x2 y0 s = some (if (d 7 &&& ((if x2 = 3 ∨ x2 = 5 then 1 else 2) * (if y0 = 0 then 4 else 1))) = 0 then 0 else 1) := by
    intro x2 y0
    unfold dm131_12 dm131_19 dm131_22 dm131_28
    rw [if_neg (show ¬ (1 : Int32) = 0 by decide), if_pos (show (0 : Int32) = 0 from rfl), z, z, z, z]
    by_cases h0 : y0 = 0
    · rw [if_pos h0, if_pos h0, if_pos h0]
      by_cases h3 : x2 = 3
      · rw [if_pos h3, if_pos (Or.inl h3)]
      · rw [if_neg h3]
        by_cases h5 : x2 = 5
        · rw [if_pos h5, if_pos (Or.inr h5)]
        · rw [if_neg h5, if_neg (show ¬ (x2 = 3 ∨ x2 = 5) from fun q => q.elim h3 h5)]
    · rw [if_neg h0, if_neg h0, if_neg h0]
      by_cases h3 : x2 = 3
      · rw [if_pos h3, if_pos (Or.inl h3)]
      · rw [if_neg h3]
        by_cases h5 : x2 = 5
        · rw [if_pos h5, if_pos (Or.inr h5)]
        · rw [if_neg h5, if_neg (show ¬ (x2 = 3 ∨ x2 = 5) from fun q => q.elim h3 h5)]
  unfold dm131 dm131_9
  rw [f0]
  simp only [bu_some, c12]
  have hw' : w = 3 ∨ w = 4 ∨ w = 5 ∨ w = 6 := by omega
  rcases hw' with rfl | rfl | rfl | rfl
  · rw [b3, if_pos (show Int32.ofNat 3 ≤ 4 by decide)]
    rfl
  · rw [b4, if_pos (show Int32.ofNat 4 ≤ 4 by decide)]
    rfl
  · rw [b5, if_neg (show ¬ Int32.ofNat 5 ≤ 4 by decide)]
    by_cases k4 : d 0 = 4
    · rw [if_pos k4, if_pos k4]
      rfl
    · rw [if_neg k4, if_neg k4]
      rfl
  · rw [b6, if_neg (show ¬ Int32.ofNat 6 ≤ 4 by decide)]
    by_cases k4 : d 0 = 4
    · rw [if_pos k4, if_pos k4]
      rfl
    · rw [if_neg k4, if_neg k4]
      rfl
/-- a number moved -/
def cvW (r c : Int32) (d : Nd) (w : Nat) : Int32 := if (d 7 &&& bitC d w) = 0 then d w + (if w = 3 ∨ w = 5 then r else c) else d w
def lastW (w : Nat) : Int32 := if w = 3 ∨ w = 5 then 1048576 else 16384
set_option maxRecDepth 100000 in
noncomputable def okW (v : Int32) (w : Nat) : Int32 := b01 (¬ bey v (lastW w))
set_option maxRecDepth 100000 in
theorem d130s {s : aS} {b n i w k : Nat} {d : Nd} {r c : Int32} (hn : sI s b 2 = Int32.ofNat n) (h8 : n ≤ 128) (hi : i < n) (h : CR s b i d) (hw : 3 ≤ w ∧ w ≤ 6) : dm130_4 (k + 1) b (Int32.ofNat i) r c 1 (Int32.ofNat w) s = dm130_4 k b (Int32.ofNat i) r c (okW (cvW r c d w) w) (Int32.ofNat (w + 1)) (wI s (b + 1) (11 * i + w) (cvW r c d w)) := by
  have fw : dm57 b (Int32.ofNat i) (Int32.ofNat w) s = some (d w) := (d57 (w := w) hn h8 hi (by omega)).trans (by rw [h w (by omega)])
  have fd := d131 hn h8 hi h hw
  have l1 : ∀ v : Int32, v < 1 ↔ v.toInt < 1 := fun v => iLt
  have p47 : ∀ (v y0 : Int32), dm130_47 (dm130_4 k) b (Int32.ofNat i) r c (Int32.ofNat w) v y0 s = dm130_4 k b (Int32.ofNat i) r c y0 (Int32.ofNat (w + 1)) (wI s (b + 1) (11 * i + w) v) := by
    intro v y0
    unfold dm130_47
    rw [d60 hn h8 hi (by omega)]
    simp only [bu_some]
    rw [ofNat_succ (by omega)]
  have p37 : ∀ (v x6 : Int32), dm132 x6 = some (lastW w) → dm130_37 (dm130_4 k) b (Int32.ofNat i) r c (Int32.ofNat w) x6 v s = dm130_4 k b (Int32.ofNat i) r c (okW v w) (Int32.ofNat (w + 1)) (wI s (b + 1) (11 * i + w) v) := by
    intro v x6 hl
    unfold dm130_37 dm130_46 okW bey
    rw [hl, p47, p47]
    simp only [bu_some]
    by_cases c1 : v < 1
    · rw [if_pos c1, b01_f]
      have := (l1 v).mp c1
      omega
    · rw [if_neg c1]
      have c1 : ¬ v.toInt < 1 := fun q => c1 ((l1 v).mpr q)
      by_cases c2 : lastW w < v
      · rw [if_pos c2, b01_f]
        rw [iLt] at c2
        omega
      · rw [if_neg c2, b01_t]
        rw [iLt] at c2
        omega
  have p18 : ∀ x6 : Int32, dm132 x6 = some (lastW w) → (if x6 = 0 then c else r) = (if w = 3 ∨ w = 5 then r else c) → dm130_18 (dm130_4 k) b (Int32.ofNat i) r c (Int32.ofNat w) x6 s = dm130_4 k b (Int32.ofNat i) r c (okW (cvW r c d w) w) (Int32.ofNat (w + 1)) (wI s (b + 1) (11 * i + w) (cvW r c d w)) := by
    intro x6 hl hs
    unfold dm130_18 dm130_35
    rw [fw, fd]
    simp only [bu_some]
    unfold cvW
    by_cases q : (d 7 &&& bitC d w) = 0
    · rw [if_pos q, if_pos rfl, if_pos q, ← hs]
      by_cases q6 : x6 = 0
      · rw [if_pos q6, if_pos q6, p37 _ _ hl]
      · rw [if_neg q6, if_neg q6, p37 _ _ hl]
    · rw [if_neg q, if_neg (by decide), if_neg q, p37 _ _ hl]
  have hw' : w = 3 ∨ w = 4 ∨ w = 5 ∨ w = 6 := by omega
  rw [dm130_4]
  rcases hw' with rfl | rfl | rfl | rfl
  · rw [if_neg (by decide), if_neg (by decide), if_pos (by decide)]
    exact p18 1 rfl rfl
  · rw [if_neg (by decide), if_neg (by decide), if_neg (by decide), if_neg (by decide)]
    exact p18 0 rfl rfl
  · rw [if_neg (by decide), if_neg (by decide), if_neg (by decide), if_pos (by decide)]
    exact p18 1 rfl rfl
  · rw [if_neg (by decide), if_neg (by decide), if_neg (by decide), if_neg (by decide)]
    exact p18 0 rfl rfl
/-- rows in order, columns in order -/
def orR (d : Nd) : Nd := if d 3 ≤ d 5 then d else setN (setN (setN d 3 (d 5)) 5 (d 3)) 7 (((d 7 &&& ((1 * 5) ^^^ (-1))) + ((d 7 &&& 1) * 4)) + ((d 7 &&& (1 * 4)) / 4))
def orC (d : Nd) : Nd := if d 4 ≤ d 6 then d else setN (setN (setN d 4 (d 6)) 6 (d 4)) 7 (((d 7 &&& ((2 * 5) ^^^ (-1))) + ((d 7 &&& 2) * 4)) + ((d 7 &&& (2 * 4)) / 4))
set_option maxRecDepth 100000 in
theorem d102 {s : aS} {b n i w : Nat} {d : Nd} {y : Int32} (hn : sI s b 2 = Int32.ofNat n) (h8 : n ≤ 128) (hi : i < n) (h : CR s b i d) (hw : (w = 3 ∧ y = 1) ∨ (w = 4 ∧ y = 2)) : ∃ s', dm102 b (Int32.ofNat i) (Int32.ofNat w) s = some s' ∧ CR s' b i (setN (setN (setN d w (d (w + 2))) (w + 2) (d w)) 7 (((d 7 &&& ((y * 5) ^^^ (-1))) + ((d 7 &&& y) * 4)) + ((d 7 &&& (y * 4)) / 4))) ∧ ch (fun a q => a = b + 1 ∧ 11 * i ≤ q ∧ q < 11 * i + 11) s s' := by
  have hw2 : w = 3 ∨ w = 4 := by omega
  have e2 : Int32.ofNat w + 2 = Int32.ofNat (w + 2) := iSum (j := 2) (by omega) (by omega)
  have f1 : dm57 b (Int32.ofNat i) (Int32.ofNat w) s = some (d w) := (d57 hn h8 hi (by omega)).trans (by rw [h w (by omega)])
  have f2 : dm57 b (Int32.ofNat i) (Int32.ofNat (w + 2)) s = some (d (w + 2)) := (d57 hn h8 hi (by omega)).trans (by rw [h (w + 2) (by omega)])
  have hn1 : sI (wI s (b + 1) (11 * i + w) (d (w + 2))) b 2 = Int32.ofNat n := (sI_wI _ _ _ _ _ _).trans ((if_neg (by omega)).trans hn)
  have hn2 : sI (wI (wI s (b + 1) (11 * i + w) (d (w + 2))) (b + 1) (11 * i + (w + 2)) (d w)) b 2 = Int32.ofNat n := (sI_wI _ _ _ _ _ _).trans ((if_neg (by omega)).trans hn1)
  have h2 : CR (wI (wI s (b + 1) (11 * i + w) (d (w + 2))) (b + 1) (11 * i + (w + 2)) (d w)) b i (setN (setN d w (d (w + 2))) (w + 2) (d w)) := (h.set (by omega)).set (by omega)
  have e7 : setN (setN d w (d (w + 2))) (w + 2) (d w) 7 = d 7 := by
    unfold setN
    rw [if_neg (by omega), if_neg (by omega)]
  have f7 : dm57 b (Int32.ofNat i) 7 (wI (wI s (b + 1) (11 * i + w) (d (w + 2))) (b + 1) (11 * i + (w + 2)) (d w)) = some (d 7) := (d57 (w := 7) hn2 h8 hi (by omega)).trans (by rw [h2 7 (by omega), e7])
  have p28 : dm102_28 b (Int32.ofNat i) y (wI (wI s (b + 1) (11 * i + w) (d (w + 2))) (b + 1) (11 * i + (w + 2)) (d w)) = some (wI (wI (wI s (b + 1) (11 * i + w) (d (w + 2))) (b + 1) (11 * i + (w + 2)) (d w)) (b + 1) (11 * i + 7) (((d 7 &&& ((y * 5) ^^^ (-1))) + ((d 7 &&& y) * 4)) + ((d 7 &&& (y * 4)) / 4))) := by
    unfold dm102_28
    rw [f7]
    simp only [bu_some]
    rw [show (7 : Int32) = Int32.ofNat 7 from rfl, d60 hn2 h8 hi (by omega)]
    rfl
  refine ⟨_, ?_, h2.set (by omega), (((ch.refl _ s).wI (by omega)).wI (by omega)).wI (by omega)⟩
  unfold dm102
  rw [e2, f1, f2]
  simp only [bu_some]
  rw [d60 hn h8 hi (by omega)]
  simp only [bu_some]
  rw [d60 hn1 h8 hi (by omega)]
  simp only [bu_some]
  rcases hw with ⟨rfl, rfl⟩ | ⟨rfl, rfl⟩
  · rw [if_pos (by decide)]
    exact p28
  · rw [if_neg (by decide)]
    exact p28
set_option maxRecDepth 100000 in
theorem d101 {s : aS} {b n i : Nat} {d : Nd} (hn : sI s b 2 = Int32.ofNat n) (h8 : n ≤ 128) (hi : i < n) (h : CR s b i d) : ∃ s', dm101 b (Int32.ofNat i) s = some s' ∧ CR s' b i (orC (orR d)) ∧ ch (fun a q => a = b + 1 ∧ 11 * i ≤ q ∧ q < 11 * i + 11) s s' := by
  have col : ∀ (s : aS) (d : Nd), sI s b 2 = Int32.ofNat n → CR s b i d → ∃ s', dm101_13 b (Int32.ofNat i) s = some s' ∧ CR s' b i (orC d) ∧ ch (fun a q => a = b + 1 ∧ 11 * i ≤ q ∧ q < 11 * i + 11) s s' := by
    intro s d hn h
    have f4 : dm57 b (Int32.ofNat i) 4 s = some (d 4) := (d57 (w := 4) hn h8 hi (by omega)).trans (by rw [h 4 (by omega)])
    have f6 : dm57 b (Int32.ofNat i) 6 s = some (d 6) := (d57 (w := 6) hn h8 hi (by omega)).trans (by rw [h 6 (by omega)])
    unfold dm101_13 orC
    rw [f4, f6]
    simp only [bu_some]
    by_cases q : d 4 ≤ d 6
    · rw [if_pos q, if_pos q]
      exact ⟨s, rfl, h, ch.refl _ s⟩
    · rw [if_neg q, if_neg q]
      obtain ⟨s', g1, g2, g3⟩ := d102 (w := 4) (y := 2) hn h8 hi h (Or.inr ⟨rfl, rfl⟩)
      have g1 : dm102 b (Int32.ofNat i) 4 s = some s' := g1
      rw [g1]
      exact ⟨s', rfl, g2, g3⟩
  have f3 : dm57 b (Int32.ofNat i) 3 s = some (d 3) := (d57 (w := 3) hn h8 hi (by omega)).trans (by rw [h 3 (by omega)])
  have f5 : dm57 b (Int32.ofNat i) 5 s = some (d 5) := (d57 (w := 5) hn h8 hi (by omega)).trans (by rw [h 5 (by omega)])
  unfold dm101 orR
  rw [f3, f5]
  simp only [bu_some]
  by_cases q : d 3 ≤ d 5
  · rw [if_pos q, if_pos q]
    exact col s d hn h
  · rw [if_neg q, if_neg q]
    obtain ⟨s', g1, g2, g3⟩ := d102 (w := 3) (y := 1) hn h8 hi h (Or.inl ⟨rfl, rfl⟩)
    have g1 : dm102 b (Int32.ofNat i) 3 s = some s' := g1
    rw [g1]
    simp only [bu_some]
    obtain ⟨s2, k1, k2, k3⟩ := col s' _ ((g3.i (by omega)).trans hn) g2
    exact ⟨s2, k1, k2, g3.trans k3⟩
