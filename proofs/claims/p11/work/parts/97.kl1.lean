/-! ranges put in order: only what is told changes -/
set_option maxRecDepth 100000 in
theorem d102x {s : aS} {b n i w : Nat} {d : Nd} {y : Int32} (hn : sI s b 2 = Int32.ofNat n) (h8 : n ≤ 128) (hi : i < n) (h : CR s b i d) (hw : (w = 3 ∧ y = 1) ∨ (w = 4 ∧ y = 2)) : ∃ s', dm102 b (Int32.ofNat i) (Int32.ofNat w) s = some s' ∧ CR s' b i (setN (setN (setN d w (d (w + 2))) (w + 2) (d w)) 7 (((d 7 &&& ((y * 5) ^^^ (-1))) + ((d 7 &&& y) * 4)) + ((d 7 &&& (y * 4)) / 4))) ∧ ch (fun a q => a = b + 1 ∧ 11 * i ≤ q ∧ q < 11 * i + 9) s s' := by
  have hw2 : w = 3 ∨ w = 4 := by omega
  have e2 : Int32.ofNat w + 2 = Int32.ofNat (w + 2) := iSum (j := 2) (by omega) (by omega)
  have f1 : dm57 b (Int32.ofNat i) (Int32.ofNat w) s = some (d w) := (d57 hn h8 hi (by omega)).trans (by rw [h w (by omega)])
  have f2 : dm57 b (Int32.ofNat i) (Int32.ofNat (w + 2)) s = some (d (w + 2)) := (d57 hn h8 hi (by omega)).trans (by rw [h (w + 2) (by omega)])
  have hn1 : sI (wI s (b + 1) (11 * i + w) (d (w + 2))) b 2 = Int32.ofNat n := (sI_wI _ _ _ _ _ _).trans ((if_neg (by omega)).trans hn)
  have hn2 : sI (wI (wI s (b + 1) (11 * i + w) (d (w + 2))) (b + 1) (11 * i + (w + 2)) (d w)) b 2 = Int32.ofNat n := (sI_wI _ _ _ _ _ _).trans ((if_neg (by omega)).trans hn1)
  have h2 : CR (wI (wI s (b + 1) (11 * i + w) (d (w + 2))) (b + 1) (11 * i + (w + 2)) (d w)) b i (setN (setN d w (d (w + 2))) (w + 2) (d w)) := (h.set (by omega)).set (by omega)
  have e7 : setN (setN d w (d (w + 2))) (w + 2) (d w) 7 = d 7 := by
    unfold setN
    rw [if_neg (by omega), if_neg (by omega)]
  have f7 : dm57 b (Int32.ofNat i) 7 (wI (wI s (b + 1) (11 * i + w) (d (w + 2))) (b + 1) (11 * i + (w + 2)) (d w)) = some (d 7) := (d57 (w := 7) hn2 h8 hi (by omega)).trans (by rw [h2 7 (by omega), e7])
  have p28 : dm102_28 b (Int32.ofNat i) y (wI (wI s (b + 1) (11 * i + w) (d (w + 2))) (b + 1) (11 * i + (w + 2)) (d w)) = some (wI (wI (wI s (b + 1) (11 * i + w) (d (w + 2))) (b + 1) (11 * i + (w + 2)) (d w)) (b + 1) (11 * i + 7) (((d 7 &&& ((y * 5) ^^^ (-1))) + ((d 7 &&& y) * 4)) + ((d 7 &&& (y * 4)) / 4))) := by
    unfold dm102_28
    rw [f7]
    simp only [bu_some]
    rw [show (7 : Int32) = Int32.ofNat 7 from rfl, d60 hn2 h8 hi (by omega)]
    rfl
  refine ⟨_, ?_, h2.set (by omega), (((ch.refl _ s).wI (by omega)).wI (by omega)).wI (by omega)⟩
  unfold dm102
  rw [e2, f1, f2]
  simp only [bu_some]
  rw [d60 hn h8 hi (by omega)]
  simp only [bu_some]
  rw [d60 hn1 h8 hi (by omega)]
  simp only [bu_some]
  rcases hw with ⟨rfl, rfl⟩ | ⟨rfl, rfl⟩
  · rw [if_pos (by decide)]
    exact p28
  · rw [if_neg (by decide)]
    exact p28
set_option maxRecDepth 100000 in
theorem d101x {s : aS} {b n i : Nat} {d : Nd} (hn : sI s b 2 = Int32.ofNat n) (h8 : n ≤ 128) (hi : i < n) (h : CR s b i d) : ∃ s', dm101 b (Int32.ofNat i) s = some s' ∧ CR s' b i (orC (orR d)) ∧ ch (fun a q => a = b + 1 ∧ 11 * i ≤ q ∧ q < 11 * i + 9) s s' := by
  have col : ∀ (s : aS) (d : Nd), sI s b 2 = Int32.ofNat n → CR s b i d → ∃ s', dm101_13 b (Int32.ofNat i) s = some s' ∧ CR s' b i (orC d) ∧ ch (fun a q => a = b + 1 ∧ 11 * i ≤ q ∧ q < 11 * i + 9) s s' := by
    intro s d hn h
    have f4 : dm57 b (Int32.ofNat i) 4 s = some (d 4) := (d57 (w := 4) hn h8 hi (by omega)).trans (by rw [h 4 (by omega)])
    have f6 : dm57 b (Int32.ofNat i) 6 s = some (d 6) := (d57 (w := 6) hn h8 hi (by omega)).trans (by rw [h 6 (by omega)])
    unfold dm101_13 orC
    rw [f4, f6]
    simp only [bu_some]
    by_cases q : d 4 ≤ d 6
    · rw [if_pos q, if_pos q]
      exact ⟨s, rfl, h, ch.refl _ s⟩
    · rw [if_neg q, if_neg q]
      obtain ⟨s', g1, g2, g3⟩ := d102x (w := 4) (y := 2) hn h8 hi h (Or.inr ⟨rfl, rfl⟩)
      have g1 : dm102 b (Int32.ofNat i) 4 s = some s' := g1
      rw [g1]
      exact ⟨s', rfl, g2, g3⟩
  have f3 : dm57 b (Int32.ofNat i) 3 s = some (d 3) := (d57 (w := 3) hn h8 hi (by omega)).trans (by rw [h 3 (by omega)])
  have f5 : dm57 b (Int32.ofNat i) 5 s = some (d 5) := (d57 (w := 5) hn h8 hi (by omega)).trans (by rw [h 5 (by omega)])
  unfold dm101 orR
  rw [f3, f5]
  simp only [bu_some]
  by_cases q : d 3 ≤ d 5
  · rw [if_pos q, if_pos q]
    exact col s d hn h
  · rw [if_neg q, if_neg q]
    obtain ⟨s', g1, g2, g3⟩ := d102x (w := 3) (y := 1) hn h8 hi h (Or.inl ⟨rfl, rfl⟩)
    have g1 : dm102 b (Int32.ofNat i) 3 s = some s' := g1
    rw [g1]
    simp only [bu_some]
    obtain ⟨s2, k1, k2, k3⟩ := col s' _ ((g3.i (by omega)).trans hn) g2
    exact ⟨s2, k1, k2, g3.trans k3⟩
