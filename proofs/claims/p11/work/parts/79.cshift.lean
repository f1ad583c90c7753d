/-! rows put in or taken out, a node, in FormulaTrees -/
def pA (x k n : Int32) : Int32 := if x < k then x + 0 else x + n
def pB (x k n m : Int32) : Int32 := if m < pA x k n then m else pA x k n
def tA (x k n : Int32) : Int32 := if x < k then x else if (x - n) < k then k else x - n
def tB (x k n : Int32) : Int32 := if x < k then x else if (x - n) < (k - 1) then k - 1 else x - n
set_option maxRecDepth 100000 in
theorem d132 (t : Int32) : dm132 t = some (lastT t) := by
  unfold dm132 lastT
  split <;> rfl
set_option maxRecDepth 100000 in
theorem CR.f {s : aS} {b N i w : Nat} {d : Nd} (hn : sI s b 2 = Int32.ofNat N) (h8 : N ≤ 128) (hi : i < N) (h : CR s b i d) (hw : w < 9) : dm57 b (Int32.ofNat i) (Int32.ofNat w) s = some (d w) := (d57 hn h8 hi (by omega)).trans (by rw [h w hw])
set_option maxRecDepth 100000 in
theorem d136 {s : aS} {b N i : Nat} {d : Nd} {t k n : Int32} (hn : sI s b 2 = Int32.ofNat N) (h8 : N ≤ 128) (hi : i < N) (h : CR s b i d) : ∃ s', dm136 b (Int32.ofNat i) t k n s = some (b01 (¬ lastT t < pA (d (wA t)) k n), s') ∧ CR s' b i (setN (setN d (wA t) (pA (d (wA t)) k n)) (wB t) (pB (d (wB t)) k n (lastT t))) ∧ ch (fun a q => a = b + 1 ∧ 11 * i ≤ q ∧ q < 11 * i + 11) s s' := by
  -- the chain with both places named
  have chain : ∀ u v : Nat, u < 9 → v < 9 → (∀ r, (if t = 0 then dm136_16 b (Int32.ofNat i) t k n r b (Int32.ofNat i) 6 s else dm136_16 b (Int32.ofNat i) t k n r b (Int32.ofNat i) 5 s) = dm136_16 b (Int32.ofNat i) t k n r b (Int32.ofNat i) (Int32.ofNat v) s) → (∀ x5 x6, (if t = 0 then dm136_43 b (Int32.ofNat i) t x5 x6 b (Int32.ofNat i) 4 s else dm136_43 b (Int32.ofNat i) t x5 x6 b (Int32.ofNat i) 3 s) = dm136_43 b (Int32.ofNat i) t x5 x6 b (Int32.ofNat i) (Int32.ofNat u) s) → (∀ x5 x6 s1, (if t = 0 then dm136_52 t x5 x6 b (Int32.ofNat i) 6 s1 else dm136_52 t x5 x6 b (Int32.ofNat i) 5 s1) = dm136_52 t x5 x6 b (Int32.ofNat i) (Int32.ofNat v) s1) → u ≠ v → ∃ s', dm136_7 b (Int32.ofNat i) t k n b (Int32.ofNat i) (Int32.ofNat u) s = some (b01 (¬ lastT t < pA (d u) k n), s') ∧ CR s' b i (setN (setN d u (pA (d u) k n)) v (pB (d v) k n (lastT t))) ∧ ch (fun a q => a = b + 1 ∧ 11 * i ≤ q ∧ q < 11 * i + 11) s s' := by
    intro u v hu hv e1 e2 e3 huv
    have n1 : sI (wI s (b + 1) (11 * i + u) (pA (d u) k n)) b 2 = Int32.ofNat N := (sI_wI _ _ _ _ _ _).trans ((if_neg (by omega)).trans hn)
    have h1 : CR (wI s (b + 1) (11 * i + u) (pA (d u) k n)) b i (setN d u (pA (d u) k n)) := h.set (by omega)
    have p52 : dm136_52 t (pA (d u) k n) (pA (d v) k n) b (Int32.ofNat i) (Int32.ofNat v) (wI s (b + 1) (11 * i + u) (pA (d u) k n)) = some (b01 (¬ lastT t < pA (d u) k n), wI (wI s (b + 1) (11 * i + u) (pA (d u) k n)) (b + 1) (11 * i + v) (pB (d v) k n (lastT t))) := by
      unfold dm136_52
      rw [d132]
      simp only [bu_some]
      rw [d60 n1 h8 hi (by omega)]
      simp only [bu_some]
      by_cases q : lastT t < pA (d u) k n
      · rw [if_pos q, b01_f (fun z => z q)]
        rfl
      · rw [if_neg q, b01_t q]
        rfl
    refine ⟨_, ?_, h1.set (by omega), ((ch.refl _ s).wI (by omega)).wI (by omega)⟩
    unfold dm136_7
    rw [CR.f hn h8 hi h hu]
    simp only [bu_some]
    rw [e1]
    unfold dm136_16
    rw [CR.f hn h8 hi h hv]
    simp only [bu_some]
    have p34 : dm136_34 b (Int32.ofNat i) t (pA (d u) k n) (d v) (if d v < k then 0 else n) s = some (b01 (¬ lastT t < pA (d u) k n), wI (wI s (b + 1) (11 * i + u) (pA (d u) k n)) (b + 1) (11 * i + v) (pB (d v) k n (lastT t))) := by
      unfold dm136_34
      have ev : d v + (if d v < k then 0 else n) = pA (d v) k n := by
        unfold pA
        split <;> rfl
      rw [ev, e2]
      unfold dm136_43
      rw [d60 hn h8 hi (by omega)]
      simp only [bu_some]
      rw [e3, p52]
    have p25 : dm136_25 b (Int32.ofNat i) t k n (d v) (d u) (if d u < k then 0 else n) s = some (b01 (¬ lastT t < pA (d u) k n), wI (wI s (b + 1) (11 * i + u) (pA (d u) k n)) (b + 1) (11 * i + v) (pB (d v) k n (lastT t))) := by
      unfold dm136_25
      have eu : d u + (if d u < k then 0 else n) = pA (d u) k n := by
        unfold pA
        split <;> rfl
      rw [eu, ← p34]
      split <;> rfl
    rw [← p25]
    split <;> rfl
  unfold dm136
  by_cases ht : t = 0
  · have eA : wA t = 4 := if_pos ht
    have eB : wB t = 6 := if_pos ht
    rw [if_pos ht, eA, eB]
    exact chain 4 6 (by omega) (by omega) (fun r => by rw [if_pos ht]; rfl) (fun _ _ => by rw [if_pos ht]; rfl) (fun _ _ _ => by rw [if_pos ht]; rfl) (by omega)
  · have eA : wA t = 3 := if_neg ht
    have eB : wB t = 5 := if_neg ht
    rw [if_neg ht, eA, eB]
    exact chain 3 5 (by omega) (by omega) (fun r => by rw [if_neg ht]; rfl) (fun _ _ => by rw [if_neg ht]; rfl) (fun _ _ _ => by rw [if_neg ht]; rfl) (by omega)
set_option maxRecDepth 100000 in
theorem d135 {s : aS} {b N i : Nat} {d : Nd} {t k n : Int32} (hn : sI s b 2 = Int32.ofNat N) (h8 : N ≤ 128) (hi : i < N) (h : CR s b i d) : ∃ s', dm135 b (Int32.ofNat i) t k n s = some (b01 (¬ (¬ d (wA t) < k ∧ d (wB t) < k + n)), s') ∧ CR s' b i (setN (setN d (wA t) (tA (d (wA t)) k n)) (wB t) (tB (d (wB t)) k n)) ∧ ch (fun a q => a = b + 1 ∧ 11 * i ≤ q ∧ q < 11 * i + 11) s s' := by
  have chain : ∀ u v : Nat, u < 9 → v < 9 → (∀ r, (if t = 0 then dm135_16 b (Int32.ofNat i) t k n r b (Int32.ofNat i) 6 s else dm135_16 b (Int32.ofNat i) t k n r b (Int32.ofNat i) 5 s) = dm135_16 b (Int32.ofNat i) t k n r b (Int32.ofNat i) (Int32.ofNat v) s) → (∀ x5 x6 x8, (if t = 0 then dm135_59 b (Int32.ofNat i) t x5 x6 x8 b (Int32.ofNat i) 4 s else dm135_59 b (Int32.ofNat i) t x5 x6 x8 b (Int32.ofNat i) 3 s) = dm135_59 b (Int32.ofNat i) t x5 x6 x8 b (Int32.ofNat i) (Int32.ofNat u) s) → (∀ x6 x8 s1, (if t = 0 then dm135_68 x6 x8 b (Int32.ofNat i) 6 s1 else dm135_68 x6 x8 b (Int32.ofNat i) 5 s1) = dm135_68 x6 x8 b (Int32.ofNat i) (Int32.ofNat v) s1) → ∃ s', dm135_7 b (Int32.ofNat i) t k n b (Int32.ofNat i) (Int32.ofNat u) s = some (b01 (¬ (¬ d u < k ∧ d v < k + n)), s') ∧ CR s' b i (setN (setN d u (tA (d u) k n)) v (tB (d v) k n)) ∧ ch (fun a q => a = b + 1 ∧ 11 * i ≤ q ∧ q < 11 * i + 11) s s' := by
    intro u v hu hv e1 e2 e3
    have n1 : ∀ y, sI (wI s (b + 1) (11 * i + u) y) b 2 = Int32.ofNat N := fun y => (sI_wI _ _ _ _ _ _).trans ((if_neg (by omega)).trans hn)
    have p52 : ∀ x5 x6 x8 : Int32, (x8 = 0 ∨ x8 = 1) → dm135_52 b (Int32.ofNat i) t x5 x6 x8 s = some (x8, wI (wI s (b + 1) (11 * i + u) x5) (b + 1) (11 * i + v) x6) := by
      intro x5 x6 x8 h01
      unfold dm135_52
      rw [e2]
      unfold dm135_59
      rw [d60 hn h8 hi (by omega)]
      simp only [bu_some]
      rw [e3]
      unfold dm135_68
      rw [d60 (n1 _) h8 hi (by omega)]
      simp only [bu_some]
      rw [if_pos h01]
    have p41 : ∀ x5 x8 : Int32, (x8 = 0 ∨ x8 = 1) → dm135_41 b (Int32.ofNat i) t k n x5 (d v) x8 s = some (x8, wI (wI s (b + 1) (11 * i + u) x5) (b + 1) (11 * i + v) (tB (d v) k n)) := by
      intro x5 x8 h01
      unfold dm135_41 tB
      by_cases q : d v < k
      · rw [if_pos q, if_pos q, p52 _ _ _ h01]
      · rw [if_neg q, if_neg q, p52 _ _ _ h01]
    have p31 : ∀ x8 : Int32, (x8 = 0 ∨ x8 = 1) → dm135_31 b (Int32.ofNat i) t k n (d u) (d v) x8 s = some (x8, wI (wI s (b + 1) (11 * i + u) (tA (d u) k n)) (b + 1) (11 * i + v) (tB (d v) k n)) := by
      intro x8 h01
      unfold dm135_31 tA
      by_cases q : d u < k
      · rw [if_pos q, if_pos q, p41 _ _ h01]
      · rw [if_neg q, if_neg q, p41 _ _ h01]
    refine ⟨wI (wI s (b + 1) (11 * i + u) (tA (d u) k n)) (b + 1) (11 * i + v) (tB (d v) k n), ?_, (h.set (by omega)).set (by omega), ((ch.refl _ s).wI (by omega)).wI (by omega)⟩
    unfold dm135_7
    rw [CR.f hn h8 hi h hu]
    simp only [bu_some]
    rw [e1]
    unfold dm135_16 dm135_28
    rw [CR.f hn h8 hi h hv]
    simp only [bu_some]
    rw [p31 1 (Or.inr rfl), p31 0 (Or.inl rfl)]
    by_cases q1 : d u < k
    · rw [if_pos q1, b01_t]
      exact fun z => z.1 q1
    · rw [if_neg q1]
      by_cases q2 : d v < k + n
      · rw [if_pos q2, b01_f]
        exact fun z => z ⟨q1, q2⟩
      · rw [if_neg q2, b01_t]
        exact fun z => q2 z.2
  unfold dm135
  by_cases ht : t = 0
  · have eA : wA t = 4 := if_pos ht
    have eB : wB t = 6 := if_pos ht
    rw [if_pos ht, eA, eB]
    exact chain 4 6 (by omega) (by omega) (fun r => by rw [if_pos ht]; rfl) (fun _ _ _ => by rw [if_pos ht]; rfl) (fun _ _ _ => by rw [if_pos ht]; rfl)
  · have eA : wA t = 3 := if_neg ht
    have eB : wB t = 5 := if_neg ht
    rw [if_neg ht, eA, eB]
    exact chain 3 5 (by omega) (by omega) (fun r => by rw [if_neg ht]; rfl) (fun _ _ _ => by rw [if_neg ht]; rfl) (fun _ _ _ => by rw [if_neg ht]; rfl)
set_option maxRecDepth 100000 in
/-- one node: what is on the sheet is shifted -/
noncomputable def shN (t k n : Int32) (d : Nd) : Nd :=
  if 0 ≤ n then (if b01 (¬ lastT t < pA (d (wA t)) k n) = 0 then loF else setN (setN d (wA t) (pA (d (wA t)) k n)) (wB t) (pB (d (wB t)) k n (lastT t)))
  else (if b01 (¬ (¬ d (wA t) < k ∧ d (wB t) < k + -n)) = 0 then loF else setN (setN d (wA t) (tA (d (wA t)) k (-n))) (wB t) (tB (d (wB t)) k (-n)))
set_option maxRecDepth 100000 in
noncomputable def shK (t k n : Int32) (d : Nd) (c : Int32) : Int32 :=
  if 0 ≤ n then (if b01 (¬ lastT t < pA (d (wA t)) k n) = 0 then c + 1 else c)
  else (if b01 (¬ (¬ d (wA t) < k ∧ d (wB t) < k + -n)) = 0 then c + 1 else c)
set_option maxRecDepth 100000 in
theorem d134n {s : aS} {b N i : Nat} {d : Nd} {x y t k n c : Int32} {k4 : Nat → Int32 → Int32 → Int32 → Int32 → Int32 → Int32 → Int32 → aS → Option (Int32 × aS)} (hn : sI s b 2 = Int32.ofNat N) (h8 : N ≤ 128) (hi : i < N) (h : CR s b i d) : ∃ s', dm134_25 k4 b x y t k n c (Int32.ofNat i) s = k4 b x y t k n (shK t k n d c) (Int32.ofNat (i + 1)) s' ∧ CR s' b i (shN t k n d) ∧ ch (fun a q => a = b + 1 ∧ 11 * i ≤ q ∧ q < 11 * i + 11) s s' := by
  have fin : ∀ (s1 : aS) (e : Nd) (p : Prop), CR s1 b i e → ch (fun a q => a = b + 1 ∧ 11 * i ≤ q ∧ q < 11 * i + 11) s s1 → ∃ s', dm134_41 k4 b x y t k n c (Int32.ofNat i) (b01 p) s1 = k4 b x y t k n (if b01 p = 0 then c + 1 else c) (Int32.ofNat (i + 1)) s' ∧ CR s' b i (if b01 p = 0 then loF else e) ∧ ch (fun a q => a = b + 1 ∧ 11 * i ≤ q ∧ q < 11 * i + 11) s s' := by
    intro s1 e p h1 hc
    unfold dm134_41 dm134_48
    rw [ofNat_succ (by omega)]
    by_cases q : b01 p = 0
    · rw [if_pos q, if_pos q, if_pos q]
      obtain ⟨s', g1, g2, g3⟩ := d58 ((hc.i (by omega)).trans hn) h8 hi
      rw [g1]
      exact ⟨s', rfl, fun w hw => g2 w (by omega), hc.trans g3⟩
    · rw [if_neg q, if_neg q, if_neg q]
      exact ⟨s1, rfl, h1, hc⟩
  unfold dm134_25 shK shN
  by_cases q : 0 ≤ n
  · rw [if_pos q, if_pos q, if_pos q]
    obtain ⟨s1, g1, g2, g3⟩ := d136 (t := t) (k := k) (n := n) hn h8 hi h
    rw [g1]
    simp only [bv_some]
    exact fin s1 _ _ g2 g3
  · rw [if_neg q, if_neg q, if_neg q]
    obtain ⟨s1, g1, g2, g3⟩ := d135 (t := t) (k := k) (n := -n) hn h8 hi h
    rw [g1]
    simp only [bv_some]
    exact fin s1 _ _ g2 g3
