/-! the writer of FormulaTrees, exactly: what was written so far, and the letter that is wanted -/
def WC (s : aS) (l : List Int32) (k : Int32) : Prop := l.length < 1000000 ∧ sI s 117 8 = Int32.ofNat l.length ∧ sI s 117 9 = k ∧ sI s 117 10 = if 0 ≤ k.toInt then l.getD k.toInt.toNat (-1) else -1
/-- w is written -/
def Ec (w : List Int32) (D : Option aS) (s : aS) : Prop := ∃ s', D = some s' ∧ ch wrD s s' ∧ ∀ l k, WC s l k → l.length + w.length < 900000 → WC s' (l ++ w) k
set_option maxRecDepth 100000 in
theorem Ec.n (s : aS) : Ec [] (some s) s := ⟨s, rfl, ch.refl _ s, fun l k h _ => by rw [List.append_nil]; exact h⟩
set_option maxRecDepth 100000 in
theorem Ec.b {w1 w2 : List Int32} {D : Option aS} {K : aS → Option aS} {s : aS} (h : Ec w1 D s) (g : ∀ s1, ch wrD s s1 → Ec w2 (K s1) s1) : Ec (w1 ++ w2) (bu D K) s := by
  obtain ⟨s1, h1, h2, h3⟩ := h
  obtain ⟨s2, k1, k2, k3⟩ := g s1 h2
  rw [h1]
  exact ⟨s2, k1, h2.trans k2, fun l k hl hn => by
    rw [List.length_append] at hn
    rw [← List.append_assoc]
    exact k3 _ k (h3 l k hl (by omega)) (by rw [List.length_append]; omega)⟩
set_option maxRecDepth 100000 in
theorem Ec.o {w : List Int32} {D : Option aS} {s : aS} (h : Ec w D s) : Ec w (bu D fun s3 => some s3) s := by
  obtain ⟨s1, h1, h2, h3⟩ := h
  rw [h1]
  exact ⟨s1, rfl, h2, h3⟩
set_option maxRecDepth 100000 in
theorem Ec.eq {w w1 : List Int32} {D : Option aS} {s : aS} (h : Ec w D s) (e : w = w1) : Ec w1 D s := by
  rw [← e]
  exact h
set_option maxRecDepth 100000 in
theorem x141 (c : Int32) (s : aS) : Ec [c] (dm141 c s) s := by
  unfold dm141 dm141_8
  by_cases q : sI s 117 8 = sI s 117 9
  · rw [if_pos q]
    simp only [nx_eq]
    refine ⟨_, rfl, ((ch.refl _ s).wI ⟨rfl, Or.inr rfl⟩).wI ⟨rfl, Or.inl rfl⟩, fun l k h hn => ?_⟩
    obtain ⟨h0, h1, h2, h3⟩ := h
    have hn : l.length + 1 < 900000 := hn
    have ap : (l ++ [c]).length = l.length + 1 := by simp
    have e : k.toInt = l.length := by rw [← h2, ← q, h1, iOfNat (by omega)]
    refine ⟨by omega, ?_, ?_, ?_⟩
    · rw [sI_wI, if_pos ⟨rfl, rfl⟩, sI_wI, if_neg (by omega), h1, ofNat_succ (by omega), ap]
    · rw [sI_wI, if_neg (by omega), sI_wI, if_neg (by omega)]
      exact h2
    · rw [sI_wI, if_neg (by omega), sI_wI, if_pos ⟨rfl, rfl⟩, if_pos (by omega), e, show ((l.length : Int)).toNat = l.length by omega, getD_in (by omega), List.getElem_append_right (Nat.le_refl _)]
      simp
  · rw [if_neg q]
    simp only [nx_eq]
    refine ⟨_, rfl, (ch.refl _ s).wI ⟨rfl, Or.inl rfl⟩, fun l k h hn => ?_⟩
    obtain ⟨h0, h1, h2, h3⟩ := h
    have hn : l.length + 1 < 900000 := hn
    have hr := iRange k
    have ap : (l ++ [c]).length = l.length + 1 := by simp
    refine ⟨by omega, ?_, ?_, ?_⟩
    · rw [sI_wI, if_pos ⟨rfl, rfl⟩, h1, ofNat_succ (by omega), ap]
    · rw [sI_wI, if_neg (by omega)]
      exact h2
    · rw [sI_wI, if_neg (by omega), h3]
      by_cases z : 0 ≤ k.toInt
      · rw [if_pos z, if_pos z]
        have ne : k.toInt.toNat ≠ l.length := by
          intro w
          apply q
          rw [h1, h2, iEq, iOfNat (by omega)]
          omega
        by_cases w : k.toInt.toNat < l.length
        · rw [getD_in w, getD_in (by omega), List.getElem_append_left]
        · rw [getD_out (by omega), getD_out (by omega)]
      · rw [if_neg z, if_neg z]
def dq1 (x q : Int32) : List Int32 := if x = q then [x, x] else [x]
set_option maxRecDepth 100000 in
theorem x146 (x y : Int32) (s : aS) : Ec (dq1 x y) (dm146 x y s) s := by
  unfold dm146 dq1
  by_cases q : x = y
  · rw [if_pos q]
    refine Ec.b (w1 := [x]) (w2 := [x]) (x141 x s) fun s1 c1 => ?_
    rw [if_pos q]
    exact (x141 x s1).o
  · rw [if_neg q]
    refine Ec.b (w1 := [x]) (w2 := []) (x141 x s) fun s1 c1 => ?_
    rw [if_neg q]
    exact Ec.n s1
/-- column letters, as they are made here -/
def coC (x : Int32) : List Int32 := (if (x - 1) < 702 then [] else [65 + ((((x - 1) - 26) - 676) / 676)]) ++ ((if (x - 1) < 26 then [] else [65 + ((((x - 1) - 26) / 26) - (((x - 1) - 26) / 26) / 26 * 26)]) ++ [65 + ((x - 1) - (x - 1) / 26 * 26)])
set_option maxRecDepth 100000 in
theorem x153 (x : Int32) (s : aS) : Ec (coC x) (dm153 x s) s := by
  have g32 : ∀ s, Ec [65 + ((x - 1) - (x - 1) / 26 * 26)] (dm153_32 (x - 1) s) s := fun s => by
    unfold dm153_32
    exact (x141 _ s).o
  have g18 : ∀ s, Ec ((if (x - 1) < 26 then [] else [65 + ((((x - 1) - 26) / 26) - (((x - 1) - 26) / 26) / 26 * 26)]) ++ [65 + ((x - 1) - (x - 1) / 26 * 26)]) (dm153_18 (x - 1) s) s := fun s => by
    unfold dm153_18
    by_cases c : (x - 1) < 26
    · rw [if_pos c, if_pos c]
      exact g32 s
    · rw [if_neg c, if_neg c]
      exact (x141 _ s).b fun s1 _ => g32 s1
  unfold dm153 coC
  by_cases c : (x - 1) < 702
  · rw [if_pos c, if_pos c]
    exact g18 s
  · rw [if_neg c, if_neg c]
    exact (x141 _ s).b fun s1 _ => g18 s1
/-- a row, as it is made here -/
def dgC (x : Int32) (m : Nat) : Int32 := 48 + ((x / Int32.ofNat (10 ^ m)) - (x / Int32.ofNat (10 ^ m)) / 10 * 10)
def deC (x : Int32) : Nat → List Int32
  | 0 => []
  | m + 1 => (if x < Int32.ofNat (10 ^ m) then [] else [dgC x m]) ++ deC x m
set_option maxRecDepth 100000 in
theorem pw_n {m : Nat} (h : m ≤ 8) : 10 ^ m ≤ 100000000 ∧ 0 < 10 ^ m := ⟨Nat.le_trans (Nat.pow_le_pow_right (by decide) h) (by decide), Nat.pow_pos (by decide)⟩
set_option maxRecDepth 100000 in
theorem pw_d {m : Nat} (h : m ≤ 8) : Int32.ofNat (10 ^ m) / 10 = Int32.ofNat (10 ^ m / 10) := by
  have hp := pw_n h
  rw [iEq, iDiv (y := 10) (by rw [iOfNat (by omega)]; omega) (by decide), iOfNat (by omega), iOfNat (by omega)]
  show ((10 ^ m : Nat) : Int) / 10 = ((10 ^ m / 10 : Nat) : Int)
  omega
set_option maxRecDepth 100000 in
theorem x154l (x : Int32) : ∀ (m n : Nat) (s : aS), m ≤ 8 → m < n → Ec (deC x m) (dm154_2 n x (Int32.ofNat (10 ^ m / 10)) s) s
  | 0, n, s, h1, h2 => by
    obtain ⟨n, rfl⟩ : ∃ q, n = q + 1 := ⟨n - 1, by omega⟩
    rw [dm154_2, if_pos (by decide)]
    exact Ec.n s
  | m + 1, n, s, h1, h2 => by
    obtain ⟨n, rfl⟩ : ∃ q, n = q + 1 := ⟨n - 1, by omega⟩
    have hp := pw_n (m := m) (by omega)
    have eu : 10 ^ (m + 1) / 10 = 10 ^ m := by rw [Nat.pow_succ, Nat.mul_div_cancel _ (by decide)]
    have hu : (Int32.ofNat (10 ^ m)).toInt = ((10 ^ m : Nat) : Int) := iOfNat (by omega)
    have nxt : ∀ s, Ec (deC x m) (dm154_16 (dm154_2 n) x (Int32.ofNat (10 ^ m)) s) s := fun s => by
      unfold dm154_16
      rw [pw_d (by omega)]
      exact x154l x m n s (by omega) (by omega)
    rw [eu, dm154_2, if_neg (by rw [iLe, hu]; show ¬ ((10 ^ m : Nat) : Int) ≤ 0; omega)]
    unfold deC
    by_cases c : x < Int32.ofNat (10 ^ m)
    · rw [if_pos c, if_pos c]
      exact nxt s
    · rw [if_neg c, if_neg c, if_pos (fun q => by have := iEq.mp q; rw [hu] at this; have t0 : (0 : Int32).toInt = 0 := rfl; omega)]
      exact (x141 _ s).b fun s1 _ => nxt s1
set_option maxRecDepth 100000 in
theorem x154 (x : Int32) (s : aS) : Ec (deC x 7) (dm154 x s) s := x154l x 7 5000 s (by decide) (by decide)
/-- a corner -/
def crC (w c f : Int32) : List Int32 := (if (f &&& 2) = 0 then [] else [36]) ++ (coC c ++ ((if (f &&& 1) = 0 then [] else [36]) ++ deC w 7))
set_option maxRecDepth 100000 in
theorem x152 (w c f : Int32) (s : aS) : Ec (crC w c f) (dm152 w c f s) s := by
  have f17 : ∀ s, Ec (deC w 7) (dm152_17 w s) s := fun s => by
    unfold dm152_17
    exact (x154 w s).o
  have f7 : ∀ s, Ec (coC c ++ ((if (f &&& 1) = 0 then [] else [36]) ++ deC w 7)) (dm152_7 w c f s) s := fun s => by
    unfold dm152_7
    refine (x153 c s).b fun s1 _ => ?_
    by_cases q : (f &&& 1) = 0
    · rw [if_pos q, if_pos q]
      exact f17 s1
    · rw [if_neg q, if_neg q]
      exact (x141 _ s1).b fun s2 _ => f17 s2
  unfold dm152 crC
  by_cases q : (f &&& 2) = 0
  · rw [if_pos q, if_pos q]
    exact f7 s
  · rw [if_neg q, if_neg q]
    exact (x141 _ s).b fun s1 _ => f7 s1
