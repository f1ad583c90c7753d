/-! letters of nodes through drop, move and shift in FormulaTrees -/
/-- where letters of a node lie: as before, or nowhere (a cell or a range that is lost) -/
def LZ (s s1 : aS) (b i : Nat) (d : Nd) : Prop := (sI s1 (b + 1) (11 * i + 9) = sI s (b + 1) (11 * i + 9) ∧ sI s1 (b + 1) (11 * i + 10) = sI s (b + 1) (11 * i + 10)) ∨ (isRf d ∧ sI s1 (b + 1) (11 * i + 9) = 0 ∧ sI s1 (b + 1) (11 * i + 10) = 0)
set_option maxRecDepth 100000 in
theorem LZ.tr {s s1 s2 : aS} {b i : Nat} {d : Nd} (h : LZ s s1 b i d) (g : LZ s1 s2 b i d) : LZ s s2 b i d := by
  rcases g with g | g
  · rcases h with h | h
    · exact Or.inl ⟨g.1.trans h.1, g.2.trans h.2⟩
    · exact Or.inr ⟨h.1, g.1.trans h.2.1, g.2.trans h.2.2⟩
  · exact Or.inr g
set_option maxRecDepth 100000 in
theorem LZ.rf (s : aS) (b i : Nat) (d : Nd) : LZ s s b i d := Or.inl ⟨rfl, rfl⟩
set_option maxRecDepth 100000 in
theorem LZ.on {s s1 : aS} {b j : Nat} {F : Nat → Nd} (hc : ch (fun a q => a = b + 1 ∧ 11 * j ≤ q ∧ q < 11 * j + 11) s s1) (h : LZ s s1 b j (F j)) (i : Nat) : LZ s s1 b i (F i) := by
  by_cases e : i = j
  · rw [e]
    exact h
  · exact Or.inl ⟨hc.i (by omega), hc.i (by omega)⟩
set_option maxRecDepth 100000 in
theorem NL.lz {s s1 : aS} {b i : Nat} {d : Nd} {u l : List Int32} (h : NL s b i u l) (g : LZ s s1 b i d) (he : isRf d → l = []) : NL s1 b i u l := by
  rcases g with g | g
  · obtain ⟨st, e1, e2, e3⟩ := h
    exact ⟨st, g.1.trans e1, g.2.trans e2, e3⟩
  · rw [he g.1]
    exact ⟨0, g.2.1, g.2.2, Nat.zero_le _, fun j hj => absurd hj (Nat.not_lt_zero j)⟩
set_option maxRecDepth 100000 in
theorem d136x {s : aS} {b N i : Nat} {d : Nd} {t k n : Int32} (hn : sI s b 2 = Int32.ofNat N) (h8 : N ≤ 128) (hi : i < N) (h : CR s b i d) : ∃ s', dm136 b (Int32.ofNat i) t k n s = some (b01 (¬ lastT t < pA (d (wA t)) k n), s') ∧ CR s' b i (setN (setN d (wA t) (pA (d (wA t)) k n)) (wB t) (pB (d (wB t)) k n (lastT t))) ∧ ch (fun a q => a = b + 1 ∧ 11 * i ≤ q ∧ q < 11 * i + 9) s s' := by
  -- the chain with both places named
  have chain : ∀ u v : Nat, u < 9 → v < 9 → (∀ r, (if t = 0 then dm136_16 b (Int32.ofNat i) t k n r b (Int32.ofNat i) 6 s else dm136_16 b (Int32.ofNat i) t k n r b (Int32.ofNat i) 5 s) = dm136_16 b (Int32.ofNat i) t k n r b (Int32.ofNat i) (Int32.ofNat v) s) → (∀ x5 x6, (if t = 0 then dm136_43 b (Int32.ofNat i) t x5 x6 b (Int32.ofNat i) 4 s else dm136_43 b (Int32.ofNat i) t x5 x6 b (Int32.ofNat i) 3 s) = dm136_43 b (Int32.ofNat i) t x5 x6 b (Int32.ofNat i) (Int32.ofNat u) s) → (∀ x5 x6 s1, (if t = 0 then dm136_52 t x5 x6 b (Int32.ofNat i) 6 s1 else dm136_52 t x5 x6 b (Int32.ofNat i) 5 s1) = dm136_52 t x5 x6 b (Int32.ofNat i) (Int32.ofNat v) s1) → u ≠ v → ∃ s', dm136_7 b (Int32.ofNat i) t k n b (Int32.ofNat i) (Int32.ofNat u) s = some (b01 (¬ lastT t < pA (d u) k n), s') ∧ CR s' b i (setN (setN d u (pA (d u) k n)) v (pB (d v) k n (lastT t))) ∧ ch (fun a q => a = b + 1 ∧ 11 * i ≤ q ∧ q < 11 * i + 9) s s' := by
    intro u v hu hv e1 e2 e3 huv
    have n1 : sI (wI s (b + 1) (11 * i + u) (pA (d u) k n)) b 2 = Int32.ofNat N := (sI_wI _ _ _ _ _ _).trans ((if_neg (by omega)).trans hn)
    have h1 : CR (wI s (b + 1) (11 * i + u) (pA (d u) k n)) b i (setN d u (pA (d u) k n)) := h.set (by omega)
    have p52 : dm136_52 t (pA (d u) k n) (pA (d v) k n) b (Int32.ofNat i) (Int32.ofNat v) (wI s (b + 1) (11 * i + u) (pA (d u) k n)) = some (b01 (¬ lastT t < pA (d u) k n), wI (wI s (b + 1) (11 * i + u) (pA (d u) k n)) (b + 1) (11 * i + v) (pB (d v) k n (lastT t))) := by
      unfold dm136_52
      rw [d132]
      simp only [bu_some]
      rw [d60 n1 h8 hi (by omega)]
      simp only [bu_some]
      by_cases q : lastT t < pA (d u) k n
      · rw [if_pos q, b01_f (fun z => z q)]
        rfl
      · rw [if_neg q, b01_t q]
        rfl
    refine ⟨_, ?_, h1.set (by omega), ((ch.refl _ s).wI (by omega)).wI (by omega)⟩
    unfold dm136_7
    rw [CR.f hn h8 hi h hu]
    simp only [bu_some]
    rw [e1]
    unfold dm136_16
    rw [CR.f hn h8 hi h hv]
    simp only [bu_some]
    have p34 : dm136_34 b (Int32.ofNat i) t (pA (d u) k n) (d v) (if d v < k then 0 else n) s = some (b01 (¬ lastT t < pA (d u) k n), wI (wI s (b + 1) (11 * i + u) (pA (d u) k n)) (b + 1) (11 * i + v) (pB (d v) k n (lastT t))) := by
      unfold dm136_34
      have ev : d v + (if d v < k then 0 else n) = pA (d v) k n := by
        unfold pA
        split <;> rfl
      rw [ev, e2]
      unfold dm136_43
      rw [d60 hn h8 hi (by omega)]
      simp only [bu_some]
      rw [e3, p52]
    have p25 : dm136_25 b (Int32.ofNat i) t k n (d v) (d u) (if d u < k then 0 else n) s = some (b01 (¬ lastT t < pA (d u) k n), wI (wI s (b + 1) (11 * i + u) (pA (d u) k n)) (b + 1) (11 * i + v) (pB (d v) k n (lastT t))) := by
      unfold dm136_25
      have eu : d u + (if d u < k then 0 else n) = pA (d u) k n := by
        unfold pA
        split <;> rfl
      rw [eu, ← p34]
      split <;> rfl
    rw [← p25]
    split <;> rfl
  unfold dm136
  by_cases ht : t = 0
  · have eA : wA t = 4 := if_pos ht
    have eB : wB t = 6 := if_pos ht
    rw [if_pos ht, eA, eB]
    exact chain 4 6 (by omega) (by omega) (fun r => by rw [if_pos ht]; rfl) (fun _ _ => by rw [if_pos ht]; rfl) (fun _ _ _ => by rw [if_pos ht]; rfl) (by omega)
  · have eA : wA t = 3 := if_neg ht
    have eB : wB t = 5 := if_neg ht
    rw [if_neg ht, eA, eB]
    exact chain 3 5 (by omega) (by omega) (fun r => by rw [if_neg ht]; rfl) (fun _ _ => by rw [if_neg ht]; rfl) (fun _ _ _ => by rw [if_neg ht]; rfl) (by omega)
set_option maxRecDepth 100000 in
theorem d135x {s : aS} {b N i : Nat} {d : Nd} {t k n : Int32} (hn : sI s b 2 = Int32.ofNat N) (h8 : N ≤ 128) (hi : i < N) (h : CR s b i d) : ∃ s', dm135 b (Int32.ofNat i) t k n s = some (b01 (¬ (¬ d (wA t) < k ∧ d (wB t) < k + n)), s') ∧ CR s' b i (setN (setN d (wA t) (tA (d (wA t)) k n)) (wB t) (tB (d (wB t)) k n)) ∧ ch (fun a q => a = b + 1 ∧ 11 * i ≤ q ∧ q < 11 * i + 9) s s' := by
  have chain : ∀ u v : Nat, u < 9 → v < 9 → (∀ r, (if t = 0 then dm135_16 b (Int32.ofNat i) t k n r b (Int32.ofNat i) 6 s else dm135_16 b (Int32.ofNat i) t k n r b (Int32.ofNat i) 5 s) = dm135_16 b (Int32.ofNat i) t k n r b (Int32.ofNat i) (Int32.ofNat v) s) → (∀ x5 x6 x8, (if t = 0 then dm135_59 b (Int32.ofNat i) t x5 x6 x8 b (Int32.ofNat i) 4 s else dm135_59 b (Int32.ofNat i) t x5 x6 x8 b (Int32.ofNat i) 3 s) = dm135_59 b (Int32.ofNat i) t x5 x6 x8 b (Int32.ofNat i) (Int32.ofNat u) s) → (∀ x6 x8 s1, (if t = 0 then dm135_68 x6 x8 b (Int32.ofNat i) 6 s1 else dm135_68 x6 x8 b (Int32.ofNat i) 5 s1) = dm135_68 x6 x8 b (Int32.ofNat i) (Int32.ofNat v) s1) → ∃ s', dm135_7 b (Int32.ofNat i) t k n b (Int32.ofNat i) (Int32.ofNat u) s = some (b01 (¬ (¬ d u < k ∧ d v < k + n)), s') ∧ CR s' b i (setN (setN d u (tA (d u) k n)) v (tB (d v) k n)) ∧ ch (fun a q => a = b + 1 ∧ 11 * i ≤ q ∧ q < 11 * i + 9) s s' := by
    intro u v hu hv e1 e2 e3
    have n1 : ∀ y, sI (wI s (b + 1) (11 * i + u) y) b 2 = Int32.ofNat N := fun y => (sI_wI _ _ _ _ _ _).trans ((if_neg (by omega)).trans hn)
    have p52 : ∀ x5 x6 x8 : Int32, (x8 = 0 ∨ x8 = 1) → dm135_52 b (Int32.ofNat i) t x5 x6 x8 s = some (x8, wI (wI s (b + 1) (11 * i + u) x5) (b + 1) (11 * i + v) x6) := by
      intro x5 x6 x8 h01
      unfold dm135_52
      rw [e2]
      unfold dm135_59
      rw [d60 hn h8 hi (by omega)]
      simp only [bu_some]
      rw [e3]
      unfold dm135_68
      rw [d60 (n1 _) h8 hi (by omega)]
      simp only [bu_some]
      rw [if_pos h01]
    have p41 : ∀ x5 x8 : Int32, (x8 = 0 ∨ x8 = 1) → dm135_41 b (Int32.ofNat i) t k n x5 (d v) x8 s = some (x8, wI (wI s (b + 1) (11 * i + u) x5) (b + 1) (11 * i + v) (tB (d v) k n)) := by
      intro x5 x8 h01
      unfold dm135_41 tB
      by_cases q : d v < k
      · rw [if_pos q, if_pos q, p52 _ _ _ h01]
      · rw [if_neg q, if_neg q, p52 _ _ _ h01]
    have p31 : ∀ x8 : Int32, (x8 = 0 ∨ x8 = 1) → dm135_31 b (Int32.ofNat i) t k n (d u) (d v) x8 s = some (x8, wI (wI s (b + 1) (11 * i + u) (tA (d u) k n)) (b + 1) (11 * i + v) (tB (d v) k n)) := by
      intro x8 h01
      unfold dm135_31 tA
      by_cases q : d u < k
      · rw [if_pos q, if_pos q, p41 _ _ h01]
      · rw [if_neg q, if_neg q, p41 _ _ h01]
    refine ⟨wI (wI s (b + 1) (11 * i + u) (tA (d u) k n)) (b + 1) (11 * i + v) (tB (d v) k n), ?_, (h.set (by omega)).set (by omega), ((ch.refl _ s).wI (by omega)).wI (by omega)⟩
    unfold dm135_7
    rw [CR.f hn h8 hi h hu]
    simp only [bu_some]
    rw [e1]
    unfold dm135_16 dm135_28
    rw [CR.f hn h8 hi h hv]
    simp only [bu_some]
    rw [p31 1 (Or.inr rfl), p31 0 (Or.inl rfl)]
    by_cases q1 : d u < k
    · rw [if_pos q1, b01_t]
      exact fun z => z.1 q1
    · rw [if_neg q1]
      by_cases q2 : d v < k + n
      · rw [if_pos q2, b01_f]
        exact fun z => z ⟨q1, q2⟩
      · rw [if_neg q2, b01_t]
        exact fun z => q2 z.2
  unfold dm135
  by_cases ht : t = 0
  · have eA : wA t = 4 := if_pos ht
    have eB : wB t = 6 := if_pos ht
    rw [if_pos ht, eA, eB]
    exact chain 4 6 (by omega) (by omega) (fun r => by rw [if_pos ht]; rfl) (fun _ _ _ => by rw [if_pos ht]; rfl) (fun _ _ _ => by rw [if_pos ht]; rfl)
  · have eA : wA t = 3 := if_neg ht
    have eB : wB t = 5 := if_neg ht
    rw [if_neg ht, eA, eB]
    exact chain 3 5 (by omega) (by omega) (fun r => by rw [if_neg ht]; rfl) (fun _ _ _ => by rw [if_neg ht]; rfl) (fun _ _ _ => by rw [if_neg ht]; rfl)
set_option maxRecDepth 100000 in
theorem d134y {s : aS} {b N i : Nat} {d : Nd} {x y t k n c : Int32} {k4 : Nat → Int32 → Int32 → Int32 → Int32 → Int32 → Int32 → Int32 → aS → Option (Int32 × aS)} (hn : sI s b 2 = Int32.ofNat N) (h8 : N ≤ 128) (hi : i < N) (h : CR s b i d) (hf : isRf d) : ∃ s', dm134_25 k4 b x y t k n c (Int32.ofNat i) s = k4 b x y t k n (shK t k n d c) (Int32.ofNat (i + 1)) s' ∧ CR s' b i (shN t k n d) ∧ ch (fun a q => a = b + 1 ∧ 11 * i ≤ q ∧ q < 11 * i + 11) s s' ∧ LZ s s' b i d := by
  have fin : ∀ (s1 : aS) (e : Nd) (p : Prop), CR s1 b i e → ch (fun a q => a = b + 1 ∧ 11 * i ≤ q ∧ q < 11 * i + 9) s s1 → ∃ s', dm134_41 k4 b x y t k n c (Int32.ofNat i) (b01 p) s1 = k4 b x y t k n (if b01 p = 0 then c + 1 else c) (Int32.ofNat (i + 1)) s' ∧ CR s' b i (if b01 p = 0 then loF else e) ∧ ch (fun a q => a = b + 1 ∧ 11 * i ≤ q ∧ q < 11 * i + 11) s s' ∧ LZ s s' b i d := by
    intro s1 e p h1 hc
    unfold dm134_41 dm134_48
    rw [ofNat_succ (by omega)]
    by_cases q : b01 p = 0
    · rw [if_pos q, if_pos q, if_pos q]
      obtain ⟨s', g1, g2, g3⟩ := d58 ((hc.i (by omega)).trans hn) h8 hi
      rw [g1]
      exact ⟨s', rfl, fun w hw => g2 w (by omega), (hc.mono fun a q z => by omega).trans g3, Or.inr ⟨hf, g2 9 (by omega), g2 10 (by omega)⟩⟩
    · rw [if_neg q, if_neg q, if_neg q]
      exact ⟨s1, rfl, h1, hc.mono fun a q z => (by omega), Or.inl ⟨hc.i (by omega), hc.i (by omega)⟩⟩
  unfold dm134_25 shK shN
  by_cases q : 0 ≤ n
  · rw [if_pos q, if_pos q, if_pos q]
    obtain ⟨s1, g1, g2, g3⟩ := d136x (t := t) (k := k) (n := n) hn h8 hi h
    rw [g1]
    simp only [bv_some]
    exact fin s1 _ _ g2 g3
  · rw [if_neg q, if_neg q, if_neg q]
    obtain ⟨s1, g1, g2, g3⟩ := d135x (t := t) (k := k) (n := -n) hn h8 hi h
    rw [g1]
    simp only [bv_some]
    exact fin s1 _ _ g2 g3
set_option maxRecDepth 100000 in
theorem d130y {s : aS} {b n i : Nat} {d : Nd} {r c : Int32} (hn : sI s b 2 = Int32.ofNat n) (h8 : n ≤ 128) (hi : i < n) (h : CR s b i d) (hf : isRf d) : ∃ s', dm130 b (Int32.ofNat i) r c s = some s' ∧ CR s' b i (mvC r c d) ∧ ch (fun a q => a = b + 1 ∧ 11 * i ≤ q ∧ q < 11 * i + 11) s s' ∧ LZ s s' b i d := by
  have lost : ∀ (k w : Nat) (s1 : aS), w < 100 → sI s1 b 2 = Int32.ofNat n → ch (fun a q => a = b + 1 ∧ 11 * i ≤ q ∧ q < 11 * i + 9) s s1 → ∃ s', dm130_4 (k + 1) b (Int32.ofNat i) r c 0 (Int32.ofNat w) s1 = some s' ∧ CR s' b i loF ∧ ch (fun a q => a = b + 1 ∧ 11 * i ≤ q ∧ q < 11 * i + 11) s s' ∧ LZ s s' b i d := by
    intro k w s1 hw h1 hc
    obtain ⟨s', g1, g2, g3⟩ := d58 h1 h8 hi
    have e55 : dm130_55 b (Int32.ofNat i) 0 s1 = some s' := by
      unfold dm130_55
      rw [if_pos rfl, g1]
      rfl
    refine ⟨s', ?_, fun w hw => g2 w (by omega), (hc.mono fun a q z => by omega).trans g3, Or.inr ⟨hf, g2 9 (by omega), g2 10 (by omega)⟩⟩
    rw [dm130_4, if_pos rfl, e55]
    split <;> rfl
  have st : ∀ (s1 : aS) (w : Nat) (v : Int32), w < 9 → sI s1 b 2 = Int32.ofNat n → ch (fun a q => a = b + 1 ∧ 11 * i ≤ q ∧ q < 11 * i + 9) s s1 → sI (wI s1 (b + 1) (11 * i + w) v) b 2 = Int32.ofNat n ∧ ch (fun a q => a = b + 1 ∧ 11 * i ≤ q ∧ q < 11 * i + 9) s (wI s1 (b + 1) (11 * i + w) v) := by
    intro s1 w v hw h1 hc
    exact ⟨(sI_wI _ _ _ _ _ _).trans ((if_neg (by omega)).trans h1), hc.wI (by omega)⟩
  unfold dm130 mvC
  rw [show dm130_4 5000 b (Int32.ofNat i) r c 1 3 s = dm130_4 (4999 + 1) b (Int32.ofNat i) r c 1 (Int32.ofNat 3) s from rfl, d130s hn h8 hi h (by omega)]
  obtain ⟨n1, c1⟩ := st s 3 (cvW r c d 3) (by omega) hn (ch.refl _ s)
  have h1 := h.set (w := 3) (v := cvW r c d 3) (by omega)
  by_cases q1 : okW (cvW r c d 3) 3 = 0
  · rw [if_pos q1, q1]
    exact lost 4998 4 _ (by omega) n1 c1
  · rw [if_neg q1, okW_1 q1]
    generalize setN d 3 (cvW r c d 3) = e1 at h1 ⊢
    generalize wI s (b + 1) (11 * i + 3) (cvW r c d 3) = s1 at h1 n1 c1 ⊢
    rw [show dm130_4 4999 b (Int32.ofNat i) r c 1 (Int32.ofNat (3 + 1)) s1 = dm130_4 (4998 + 1) b (Int32.ofNat i) r c 1 (Int32.ofNat 4) s1 from rfl, d130s n1 h8 hi h1 (by omega)]
    obtain ⟨n2, c2⟩ := st s1 4 (cvW r c e1 4) (by omega) n1 c1
    have h2 := h1.set (w := 4) (v := cvW r c e1 4) (by omega)
    by_cases q2 : okW (cvW r c e1 4) 4 = 0
    · rw [if_pos q2, q2]
      exact lost 4997 5 _ (by omega) n2 c2
    · rw [if_neg q2, okW_1 q2]
      generalize setN e1 4 (cvW r c e1 4) = e2 at h2 ⊢
      generalize wI s1 (b + 1) (11 * i + 4) (cvW r c e1 4) = s2 at h2 n2 c2 ⊢
      rw [show dm130_4 4998 b (Int32.ofNat i) r c 1 (Int32.ofNat (4 + 1)) s2 = dm130_4 (4997 + 1) b (Int32.ofNat i) r c 1 (Int32.ofNat 5) s2 from rfl, d130s n2 h8 hi h2 (by omega)]
      obtain ⟨n3, c3⟩ := st s2 5 (cvW r c e2 5) (by omega) n2 c2
      have h3 := h2.set (w := 5) (v := cvW r c e2 5) (by omega)
      by_cases q3 : okW (cvW r c e2 5) 5 = 0
      · rw [if_pos q3, q3]
        exact lost 4996 6 _ (by omega) n3 c3
      · rw [if_neg q3, okW_1 q3]
        generalize setN e2 5 (cvW r c e2 5) = e3 at h3 ⊢
        generalize wI s2 (b + 1) (11 * i + 5) (cvW r c e2 5) = s3 at h3 n3 c3 ⊢
        rw [show dm130_4 4997 b (Int32.ofNat i) r c 1 (Int32.ofNat (5 + 1)) s3 = dm130_4 (4996 + 1) b (Int32.ofNat i) r c 1 (Int32.ofNat 6) s3 from rfl, d130s n3 h8 hi h3 (by omega)]
        obtain ⟨n4, c4⟩ := st s3 6 (cvW r c e3 6) (by omega) n3 c3
        have h4 := h3.set (w := 6) (v := cvW r c e3 6) (by omega)
        by_cases q4 : okW (cvW r c e3 6) 6 = 0
        · rw [if_pos q4, q4]
          exact lost 4995 7 _ (by omega) n4 c4
        · rw [if_neg q4, okW_1 q4]
          generalize setN e3 6 (cvW r c e3 6) = e4 at h4 ⊢
          generalize wI s3 (b + 1) (11 * i + 6) (cvW r c e3 6) = s4 at h4 n4 c4 ⊢
          obtain ⟨s', g1, g2, g3⟩ := d101x n4 h8 hi h4
          have c5 := c4.trans g3
          refine ⟨s', ?_, g2, c5.mono fun a q z => (by omega), Or.inl ⟨c5.i (by omega), c5.i (by omega)⟩⟩
          rw [show dm130_4 4996 b (Int32.ofNat i) r c 1 (Int32.ofNat (6 + 1)) s4 = dm130_4 (4995 + 1) b (Int32.ofNat i) r c 1 (Int32.ofNat 7) s4 from rfl, dm130_4, if_pos (by decide)]
          unfold dm130_55
          rw [if_neg (by decide), g1]
          rfl
set_option maxRecDepth 100000 in
theorem d128v {b n : Nat} {r c : Int32} {F : Nat → Nd} : ∀ (m j k : Nat) (s : aS), j + m = n → m < k → TF9 s b n (fun i => if i < j then onRf (mvC r c) (F i) else F i) → ∃ s', dm128_2 k b r c (Int32.ofNat j) s = some s' ∧ TF9 s' b n (fun i => onRf (mvC r c) (F i)) ∧ ch (fun a _ => a = b + 1) s s' ∧ ∀ i, LZ s s' b i (F i) := by
  intro m
  induction m with
  | zero =>
    intro j k s hj hk h
    obtain ⟨k, rfl⟩ : ∃ q, k = q + 1 := ⟨k - 1, by omega⟩
    have h8 := h.2.1
    rw [dm128_2, h.1, if_pos (by rw [iLe, iOfNat (by omega), iOfNat (by omega)]; omega)]
    exact ⟨s, rfl, h.cg fun i hi w hw => by show (if i < j then onRf (mvC r c) (F i) else F i) w = _; rw [if_pos (by omega)], ch.refl _ s, fun i => LZ.rf s b i _⟩
  | succ m ih =>
    intro j k s hj hk h
    obtain ⟨k, rfl⟩ : ∃ q, k = q + 1 := ⟨k - 1, by omega⟩
    have h8 := h.2.1
    have hr : CR s b j (F j) := by
      have := h.row (i := j) (by omega)
      have : CR s b j (if j < j then onRf (mvC r c) (F j) else F j) := this
      rw [if_neg (by omega)] at this
      exact this
    rw [dm128_2, h.1, if_neg (by rw [iLe, iOfNat (by omega), iOfNat (by omega)]; omega), d129 h.1 h8 (by omega) hr]
    simp only [bu_some]
    unfold dm128_15
    rw [ofNat_succ (by omega)]
    have next : ∀ s1, TF9 s1 b n (fun i => if i = j then onRf (mvC r c) (F j) else if i < j then onRf (mvC r c) (F i) else F i) → ch (fun a _ => a = b + 1) s s1 → (∀ i, LZ s s1 b i (F i)) → ∃ s', dm128_2 k b r c (Int32.ofNat (j + 1)) s1 = some s' ∧ TF9 s' b n (fun i => onRf (mvC r c) (F i)) ∧ ch (fun a _ => a = b + 1) s s' ∧ ∀ i, LZ s s' b i (F i) := by
      intro s1 t1 c1 z1
      obtain ⟨s', a1, a2, a3, a4⟩ := ih (j + 1) k s1 (by omega) (by omega) (t1.cg fun i hi w hw => by
        show (if i = j then onRf (mvC r c) (F j) else if i < j then onRf (mvC r c) (F i) else F i) w = (if i < j + 1 then onRf (mvC r c) (F i) else F i) w
        by_cases e : i = j
        · subst e
          rw [if_pos rfl, if_pos (by omega)]
        · rw [if_neg e]
          by_cases e2 : i < j
          · rw [if_pos e2, if_pos (by omega)]
          · rw [if_neg e2, if_neg (by omega)])
      exact ⟨s', a1, a2, c1.trans a3, fun i => (z1 i).tr (a4 i)⟩
    by_cases q : isRf (F j)
    · rw [b01_t q, if_neg (by decide)]
      obtain ⟨s1, g1, g2, g3, g4⟩ := d130y (r := r) (c := c) h.1 h8 (by omega : j < n) hr q
      rw [g1]
      simp only [bu_some]
      refine next s1 (h.up (g := onRf (mvC r c) (F j)) (by omega) (fun w hw => ?_) g3) (g3.mono fun a q z => z.1) (LZ.on g3 g4)
      rw [onRf_t q]
      exact g2 w hw
    · rw [b01_f q, if_pos rfl]
      refine next s (h.cg fun i hi w hw => ?_) (ch.refl _ s) (fun i => LZ.rf s b i _)
      show (if i < j then onRf (mvC r c) (F i) else F i) w = (if i = j then onRf (mvC r c) (F j) else if i < j then onRf (mvC r c) (F i) else F i) w
      by_cases e : i = j
      · subst e
        rw [if_neg (by omega), if_pos rfl, onRf_f q]
      · rw [if_neg e]
set_option maxRecDepth 100000 in
theorem d128y {s : aS} {b : Nat} {L : List Nd} {r c : Int32} (h : TC s b L) : ∃ s', dm128 b r c s = some s' ∧ TC s' b (L.map (onRf (mvC r c))) ∧ ch (fun a _ => a = b + 1) s s' ∧ ∀ i (g : i < L.length), LZ s s' b i L[i] := by
  have h8 := h.2.1
  obtain ⟨s', g1, g2, g3, g4⟩ := d128v (b := b) (r := r) (c := c) (F := fun i => L.getD i (fun _ => 0)) L.length 0 5000 s (by omega) (by omega) (h.f.cg fun i hi w hw => by
    show L.getD i (fun _ => 0) w = (if i < 0 then _ else L.getD i (fun _ => 0)) w
    rw [if_neg (by omega)])
  refine ⟨s', g1, g2.c (by rw [List.length_map]) fun i hi w hw => ?_, g3, fun i hi => by have := g4 i; rw [getD_nd hi] at this; exact this⟩
  rw [List.length_map] at hi
  show onRf (mvC r c) (L.getD i (fun _ => 0)) w = _
  rw [List.getElem_map, List.getD, List.getElem?_eq_getElem hi]
  rfl
set_option maxRecDepth 100000 in
theorem d134v {b N : Nat} {x y t k n : Int32} {F : Nat → Nd} : ∀ (q j z : Nat) (c : Int32) (s : aS), j + q = N → q < z → TF9 s b N (fun i => if i < j then shF x y t k n (F i) else F i) → ∃ s', dm134_4 z b x y t k n c (Int32.ofNat j) s = some (scC x y t k n F q j c, s') ∧ TF9 s' b N (fun i => shF x y t k n (F i)) ∧ ch (fun a _ => a = b + 1) s s' ∧ ∀ i, LZ s s' b i (F i) := by
  intro q
  induction q with
  | zero =>
    intro j z c s hj hz h
    obtain ⟨z, rfl⟩ : ∃ a, z = a + 1 := ⟨z - 1, by omega⟩
    have h8 := h.2.1
    rw [dm134_4, h.1, if_pos (by rw [iLe, iOfNat (by omega), iOfNat (by omega)]; omega)]
    exact ⟨s, rfl, h.cg fun i hi w hw => by show (if i < j then shF x y t k n (F i) else F i) w = _; rw [if_pos (by omega)], ch.refl _ s, fun i => LZ.rf s b i _⟩
  | succ q ih =>
    intro j z c s hj hz h
    obtain ⟨z, rfl⟩ : ∃ a, z = a + 1 := ⟨z - 1, by omega⟩
    have h8 := h.2.1
    have hr : CR s b j (F j) := by
      have := h.row (i := j) (by omega)
      have : CR s b j (if j < j then shF x y t k n (F j) else F j) := this
      rw [if_neg (by omega)] at this
      exact this
    have f2 : dm57 b (Int32.ofNat j) 2 s = some (F j 2) := CR.f (w := 2) h.1 h8 (by omega) hr (by omega)
    have next : ∀ (s1 : aS) (c1 : Int32), c1 = shG x y t k n (F j) c → TF9 s1 b N (fun i => if i = j then shF x y t k n (F j) else if i < j then shF x y t k n (F i) else F i) → ch (fun a _ => a = b + 1) s s1 → (∀ i, LZ s s1 b i (F i)) → ∃ s', dm134_4 z b x y t k n c1 (Int32.ofNat (j + 1)) s1 = some (scC x y t k n F q (j + 1) (shG x y t k n (F j) c), s') ∧ TF9 s' b N (fun i => shF x y t k n (F i)) ∧ ch (fun a _ => a = b + 1) s s' ∧ ∀ i, LZ s s' b i (F i) := by
      intro s1 c1 hc1 t1 cc1 z1
      subst hc1
      obtain ⟨s', a1, a2, a3, a4⟩ := ih (j + 1) z (shG x y t k n (F j) c) s1 (by omega) (by omega) (t1.cg fun i hi w hw => by
        show (if i = j then shF x y t k n (F j) else if i < j then shF x y t k n (F i) else F i) w = (if i < j + 1 then shF x y t k n (F i) else F i) w
        by_cases e : i = j
        · subst e
          rw [if_pos rfl, if_pos (by omega)]
        · rw [if_neg e]
          by_cases e2 : i < j
          · rw [if_pos e2, if_pos (by omega)]
          · rw [if_neg e2, if_neg (by omega)])
      exact ⟨s', a1, a2, cc1.trans a3, fun i => (z1 i).tr (a4 i)⟩
    have no : ¬ onC x y (F j) → ∃ s', dm134_48 (dm134_4 z) b x y t k n c (Int32.ofNat j) s = some (scC x y t k n F q (j + 1) (shG x y t k n (F j) c), s') ∧ TF9 s' b N (fun i => shF x y t k n (F i)) ∧ ch (fun a _ => a = b + 1) s s' ∧ ∀ i, LZ s s' b i (F i) := by
      intro hq
      unfold dm134_48
      rw [ofNat_succ (by omega)]
      refine next s c (by unfold shG; rw [b01_f hq, if_pos rfl]) (h.cg fun i hi w hw => ?_) (ch.refl _ s) (fun i => LZ.rf s b i _)
      show (if i < j then shF x y t k n (F i) else F i) w = (if i = j then shF x y t k n (F j) else if i < j then shF x y t k n (F i) else F i) w
      by_cases e : i = j
      · subst e
        rw [if_neg (by omega), if_pos rfl]
        unfold shF
        rw [b01_f hq, if_pos rfl]
      · rw [if_neg e]
    have yes : onC x y (F j) → ∃ s', dm134_25 (dm134_4 z) b x y t k n c (Int32.ofNat j) s = some (scC x y t k n F q (j + 1) (shG x y t k n (F j) c), s') ∧ TF9 s' b N (fun i => shF x y t k n (F i)) ∧ ch (fun a _ => a = b + 1) s s' ∧ ∀ i, LZ s s' b i (F i) := by
      intro hq
      obtain ⟨s1, g1, g2, g3, g4⟩ := d134y (x := x) (y := y) (t := t) (k := k) (n := n) (c := c) (k4 := dm134_4 z) h.1 h8 (by omega : j < N) hr hq.1
      rw [g1]
      refine next s1 _ (by unfold shG; rw [b01_t hq, if_neg (by decide)]) (h.up (g := shF x y t k n (F j)) (by omega) (fun w hw => ?_) g3) (g3.mono fun a q z => z.1) (LZ.on g3 g4)
      unfold shF
      rw [b01_t hq, if_neg (by decide)]
      exact g2 w hw
    rw [dm134_4, h.1, if_neg (by rw [iLe, iOfNat (by omega), iOfNat (by omega)]; omega), f2, d129 h.1 h8 (by omega) hr]
    simp only [bu_some]
    show ∃ s', _ = some (scC x y t k n F q (j + 1) (shG x y t k n (F j) c), s') ∧ _
    by_cases hf : isRf (F j)
    · rw [b01_t hf, if_neg (by decide)]
      by_cases c1 : F j 2 = x
      · rw [if_pos c1]
        exact yes ⟨hf, Or.inl c1⟩
      · rw [if_neg c1]
        by_cases c2 : F j 2 = -1
        · rw [if_pos c2]
          by_cases c3 : y = 0
          · rw [if_pos c3]
            refine no fun z => ?_
            rcases z.2 with q | q
            · exact c1 q
            · exact q.2 c3
          · rw [if_neg c3]
            exact yes ⟨hf, Or.inr ⟨c2, c3⟩⟩
        · rw [if_neg c2]
          refine no fun z => ?_
          rcases z.2 with q | q
          · exact c1 q
          · exact c2 q.1
    · rw [b01_f hf, if_pos rfl]
      exact no fun z => hf z.1
set_option maxRecDepth 100000 in
theorem d134z {s : aS} {b : Nat} {L : List Nd} {x y t k n : Int32} (h : TC s b L) : ∃ s', dm134 b x y t k n s = some (scC x y t k n (fun i => L.getD i (fun _ => 0)) L.length 0 0, s') ∧ TC s' b (L.map (shF x y t k n)) ∧ ch (fun a _ => a = b + 1) s s' ∧ ∀ i (g : i < L.length), LZ s s' b i L[i] := by
  have h8 := h.2.1
  obtain ⟨s', g1, g2, g3, g4⟩ := d134v (b := b) (x := x) (y := y) (t := t) (k := k) (n := n) (F := fun i => L.getD i (fun _ => 0)) L.length 0 5000 0 s (by omega) (by omega) (h.f.cg fun i hi w hw => by
    show L.getD i (fun _ => 0) w = (if i < 0 then _ else L.getD i (fun _ => 0)) w
    rw [if_neg (by omega)])
  refine ⟨s', g1, g2.c (by rw [List.length_map]) fun i hi w hw => ?_, g3, fun i hi => by have := g4 i; rw [getD_nd hi] at this; exact this⟩
  rw [List.length_map] at hi
  show shF x y t k n (L.getD i (fun _ => 0)) w = _
  rw [List.getElem_map, List.getD, List.getElem?_eq_getElem hi]
  rfl
set_option maxRecDepth 100000 in
theorem d56v {b n : Nat} {x : Int32} {F : Nat → Nd} (hR : ∀ i, i < n → F i 2 = x → isRf (F i)) : ∀ (m j k : Nat) (s : aS), j + m = n → m < k → TF9 s b n (fun i => if i < j then lsN x (F i) else F i) → ∃ s', dm56_2 k b x (Int32.ofNat j) s = some s' ∧ TF9 s' b n (fun i => lsN x (F i)) ∧ ch (fun a _ => a = b + 1) s s' ∧ ∀ i, LZ s s' b i (F i) := by
  intro m
  induction m with
  | zero =>
    intro j k s hj hk h
    obtain ⟨k, rfl⟩ : ∃ q, k = q + 1 := ⟨k - 1, by omega⟩
    have h8 := h.2.1
    rw [dm56_2, h.1, if_pos (by rw [iLe, iOfNat (by omega), iOfNat (by omega)]; omega)]
    exact ⟨s, rfl, h.cg fun i hi w hw => by show (if i < j then lsN x (F i) else F i) w = _; rw [if_pos (by omega)], ch.refl _ s, fun i => LZ.rf s b i _⟩
  | succ m ih =>
    intro j k s hj hk h
    obtain ⟨k, rfl⟩ : ∃ q, k = q + 1 := ⟨k - 1, by omega⟩
    have h8 := h.2.1
    have ef : sI s (b + 1) (11 * j + 2) = F j 2 := by
      have := h.2.2 j (by omega) 2 (by omega)
      have : sI s (b + 1) (11 * j + 2) = (if j < j then lsN x (F j) else F j) 2 := this
      rw [if_neg (by omega)] at this
      exact this
    have q2 : dm57 b (Int32.ofNat j) 2 s = some (F j 2) := by
      have := d57 (s := s) (b := b) (i := j) (w := 2) h.1 h8 (by omega) (by omega)
      rw [ef] at this
      exact this
    rw [dm56_2, h.1, if_neg (by rw [iLe, iOfNat (by omega), iOfNat (by omega)]; omega), q2]
    simp only [bu_some]
    unfold dm56_28
    rw [ofNat_succ (by omega)]
    have next : ∀ s1, TF9 s1 b n (fun i => if i = j then lsN x (F j) else if i < j then lsN x (F i) else F i) → ch (fun a _ => a = b + 1) s s1 → (∀ i, LZ s s1 b i (F i)) → ∃ s', dm56_2 k b x (Int32.ofNat (j + 1)) s1 = some s' ∧ TF9 s' b n (fun i => lsN x (F i)) ∧ ch (fun a _ => a = b + 1) s s' ∧ ∀ i, LZ s s' b i (F i) := by
      intro s1 t1 c1 z1
      obtain ⟨s', a1, a2, a3, a4⟩ := ih (j + 1) k s1 (by omega) (by omega) (t1.cg fun i hi w hw => by
        show (if i = j then lsN x (F j) else if i < j then lsN x (F i) else F i) w = (if i < j + 1 then lsN x (F i) else F i) w
        by_cases e : i = j
        · subst e
          rw [if_pos rfl, if_pos (by omega)]
        · rw [if_neg e]
          by_cases e2 : i < j
          · rw [if_pos e2, if_pos (by omega)]
          · rw [if_neg e2, if_neg (by omega)])
      exact ⟨s', a1, a2, c1.trans a3, fun i => (z1 i).tr (a4 i)⟩
    by_cases c1 : F j 2 = x
    · rw [if_pos c1]
      obtain ⟨s1, g1, g2, g3⟩ := d58 h.1 h8 (by omega : j < n)
      rw [g1]
      simp only [bu_some]
      refine next s1 (h.up (g := lsN x (F j)) (by omega) (fun w hw => ?_) g3) (g3.mono fun a q z => z.1) (LZ.on g3 (Or.inr ⟨hR j (by omega) c1, g2 9 (by omega), g2 10 (by omega)⟩))
      unfold lsN
      rw [if_pos c1]
      exact g2 w (by omega)
    · rw [if_neg c1]
      by_cases c2 : F j 2 ≤ x
      · rw [if_pos c2]
        refine next s (h.cg fun i hi w hw => ?_) (ch.refl _ s) (fun i => LZ.rf s b i _)
        show (if i < j then lsN x (F i) else F i) w = (if i = j then lsN x (F j) else if i < j then lsN x (F i) else F i) w
        by_cases e : i = j
        · subst e
          rw [if_neg (by omega), if_pos rfl]
          unfold lsN
          rw [if_neg c1, if_pos c2]
        · rw [if_neg e]
      · rw [if_neg c2]
        have q3 : dm60 b (Int32.ofNat j) 2 (F j 2 - 1) s = some (wI s (b + 1) (11 * j + 2) (F j 2 - 1)) := d60 (w := 2) h.1 h8 (by omega) (by omega)
        rw [q3]
        simp only [bu_some]
        have hc : ch (fun a q => a = b + 1 ∧ 11 * j ≤ q ∧ q < 11 * j + 11) s (wI s (b + 1) (11 * j + 2) (F j 2 - 1)) := (ch.refl _ s).wI (by omega)
        refine next _ (h.up (g := lsN x (F j)) (by omega) (fun w hw => ?_) hc) (hc.mono fun a q z => z.1) (LZ.on hc (Or.inl ⟨by rw [sI_wI, if_neg (by omega)], by rw [sI_wI, if_neg (by omega)]⟩))
        unfold lsN
        rw [if_neg c1, if_neg c2, sI_wI]
        by_cases e : w = 2
        · rw [if_pos ⟨rfl, by omega⟩, if_pos e]
        · rw [if_neg (by omega), if_neg e]
          have := h.2.2 j (by omega) w hw
          have : sI s (b + 1) (11 * j + w) = (if j < j then lsN x (F j) else F j) w := this
          rw [if_neg (by omega)] at this
          exact this
set_option maxRecDepth 100000 in
theorem d56y {s : aS} {b : Nat} {L : List Nd} {x : Int32} (h : TC s b L) (hR : ∀ d ∈ L, d 2 = x → isRf d) : ∃ s', dm56 b x s = some s' ∧ TC s' b (L.map (lsN x)) ∧ ch (fun a _ => a = b + 1) s s' ∧ ∀ i (g : i < L.length), LZ s s' b i L[i] := by
  have h8 := h.2.1
  obtain ⟨s', g1, g2, g3, g4⟩ := d56v (b := b) (n := L.length) (x := x) (F := fun i => L.getD i (fun _ => 0)) (fun i hi q => by
    have e : L.getD i (fun _ => 0) = L[i] := getD_nd hi
    rw [e] at q ⊢
    exact hR _ (List.getElem_mem hi) q) L.length 0 5000 s (by omega) (by omega) (h.f.cg fun i hi w hw => by
    show L.getD i (fun _ => 0) w = (if i < 0 then _ else L.getD i (fun _ => 0)) w
    rw [if_neg (by omega)])
  refine ⟨s', g1, g2.c (by rw [List.length_map]) fun i hi w hw => ?_, g3, fun i hi => by have := g4 i; rw [getD_nd hi] at this; exact this⟩
  rw [List.length_map] at hi
  show lsN x (L.getD i (fun _ => 0)) w = _
  rw [List.getElem_map, List.getD, List.getElem?_eq_getElem hi]
  rfl
