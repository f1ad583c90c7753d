/-! what changes of nodes leave alone -/
def nmp (g : Nd → Nd) : Prop := ∀ d, (g d 0 = d 0 ∨ (isRf d ∧ g d 0 = 2)) ∧ g d 1 = d 1
set_option maxRecDepth 100000 in
theorem ft_map {g : Nd → Nd} (hg : ∀ d, g d 1 = d 1) : ∀ (L : List Nd) (n : Nat), ft L n → ft (L.map g) n
  | [], n, h => h
  | d :: L, n, h => by
    obtain ⟨h1, h2⟩ := h
    refine ⟨h1, ?_⟩
    have e : arN (g d) = arN d := by unfold arN; rw [hg]
    rw [e]
    exact ft_map hg L _ h2
set_option maxRecDepth 100000 in
theorem ar_map {d e : Nd} (h : arOk d) (h0 : e 0 = d 0 ∨ (isRf d ∧ e 0 = 2)) (h1 : e 1 = d 1) : arOk e := by
  rcases h0 with h0 | ⟨hr, h0⟩
  · unfold arOk
    rw [h0, h1]
    exact h
  · have d1 : d 1 = 0 := h.2.2.2.1 (by
      rcases hr with q | q
      · rw [q]
        decide
      · rw [q]
        decide)
    unfold arOk
    rw [h0, h1, d1]
    decide
set_option maxRecDepth 100000 in
theorem lo0 (d : Nd) : loM d 0 = 2 := rfl
set_option maxRecDepth 100000 in
theorem lo1 (d : Nd) : loM d 1 = d 1 := rfl
set_option maxRecDepth 100000 in
theorem lo2 (d : Nd) : loM d 2 = -1 := rfl
set_option maxRecDepth 100000 in
theorem ls_map {x : Int32} (hx : 0 ≤ x.toInt) {d : Nd} (h : ndOk d) : (lsM x d 0 = d 0 ∨ (isRf d ∧ lsM x d 0 = 2)) ∧ lsM x d 1 = d 1 := by
  unfold lsM
  by_cases c : d 2 = x
  · rw [if_pos c]
    refine ⟨Or.inr ⟨?_, lo0 d⟩, lo1 d⟩
    refine Classical.byContradiction fun q => ?_
    have e := h.2.2.1 q
    rw [e] at c
    rw [← c] at hx
    exact absurd hx (by decide)
  · rw [if_neg c]
    by_cases c2 : d 2 ≤ x
    · rw [if_pos c2]
      exact ⟨Or.inl rfl, rfl⟩
    · rw [if_neg c2]
      exact ⟨Or.inl (if_neg (by decide)), if_neg (by decide)⟩
set_option maxRecDepth 100000 in
theorem ls_eq {x : Int32} (hx : 0 ≤ x.toInt) {d : Nd} (h : ndOk d) : lsM x d = lsN x d := by
  unfold lsM lsN
  by_cases c : d 2 = x
  · rw [if_pos c, if_pos c, lo_eq (h.c hx c)]
  · rw [if_neg c, if_neg c]
set_option maxRecDepth 100000 in
theorem ls_2 {x : Int32} {n : Nat} (hx : 0 ≤ x.toInt ∧ x.toInt < n) {d : Nd} (h : ndOk d) (h2 : (d 2).toInt < n) : (lsM x d 2).toInt < (n - 1 : Int) := by
  unfold lsM
  by_cases c : d 2 = x
  · rw [if_pos c, lo2]
    show (-1 : Int) < _
    omega
  · rw [if_neg c]
    have hn : (d 2).toInt ≠ x.toInt := fun q => c (iEq.mpr q)
    by_cases c2 : d 2 ≤ x
    · rw [if_pos c2]
      have := iLe.mp c2
      omega
    · rw [if_neg c2]
      have c2 : ¬ (d 2).toInt ≤ x.toInt := fun q => c2 (iLe.mpr q)
      show (if (2 : Nat) = 2 then d 2 - 1 else d 2).toInt < _
      rw [if_pos rfl]
      have e1 : (1 : Int32).toInt = 1 := rfl
      have := h.1
      rw [iSub (by rw [e1]; omega) (by rw [e1]; omega), e1]
      omega
set_option maxRecDepth 100000 in
theorem sh_map {x t k n m ho : Int32} : nmp (shM x t k n m ho) := by
  intro d
  unfold shM
  rcases Classical.em (isRf d ∧ onS x ho d) with c | c
  · rw [b01_t c, if_neg (by decide)]
    rcases Classical.em (loS t k n m d) with c2 | c2
    · rw [b01_t c2, if_neg (by decide)]
      exact ⟨Or.inr ⟨c.1, lo0 d⟩, lo1 d⟩
    · rw [b01_f c2, if_pos rfl]
      have a1 : (0 : Nat) ≠ wA t ∧ (1 : Nat) ≠ wA t := by
        unfold wA
        split <;> exact ⟨by decide, by decide⟩
      have a2 : (0 : Nat) ≠ wB t ∧ (1 : Nat) ≠ wB t := by
        unfold wB
        split <;> exact ⟨by decide, by decide⟩
      exact ⟨Or.inl (by rw [setN_n a2.1, setN_n a1.1]), by rw [setN_n a2.2, setN_n a1.2]⟩
  · rw [b01_f c, if_pos rfl]
    exact ⟨Or.inl rfl, rfl⟩
set_option maxRecDepth 100000 in
theorem sh_2 {x t k n m ho : Int32} {N : Nat} {d : Nd} (h : (d 2).toInt < N) : (shM x t k n m ho d 2).toInt < N := by
  unfold shM
  rcases Classical.em (isRf d ∧ onS x ho d) with c | c
  · rw [b01_t c, if_neg (by decide)]
    rcases Classical.em (loS t k n m d) with c2 | c2
    · rw [b01_t c2, if_neg (by decide), lo2]
      show (-1 : Int) < _
      omega
    · rw [b01_f c2, if_pos rfl]
      have a1 : (2 : Nat) ≠ wA t := by
        unfold wA
        split <;> decide
      have a2 : (2 : Nat) ≠ wB t := by
        unfold wB
        split <;> decide
      rw [setN_n a2, setN_n a1]
      exact h
  · rw [b01_f c, if_pos rfl]
    exact h
set_option maxRecDepth 100000 in
theorem mvM_k {r c : Int32} (d : Nd) : (mvM r c d 0 = d 0 ∨ mvM r c d 0 = 2) ∧ mvM r c d 1 = d 1 ∧ (mvM r c d 2 = d 2 ∨ mvM r c d 2 = -1) := by
  have e : ∀ k, k < 3 → mv4 c (mv3 r (mv2 c (mv1 r d))) k = d k := fun k hk => by rw [mv4_n (by omega), mv3_n (by omega), mv2_n (by omega), mv1_n (by omega)]
  unfold mvM mvE
  split
  · exact ⟨Or.inr (lo0 _), (lo1 _).trans (e 1 (by omega)), Or.inr (lo2 _)⟩
  · split
    · exact ⟨Or.inl (e 0 (by omega)), e 1 (by omega), Or.inl (e 2 (by omega))⟩
    · exact ⟨Or.inl (by rw [srC_k (by omega), srR_k (by omega)]; exact e 0 (by omega)), by rw [srC_k (by omega), srR_k (by omega)]; exact e 1 (by omega), Or.inl (by rw [srC_k (by omega), srR_k (by omega)]; exact e 2 (by omega))⟩
set_option maxRecDepth 100000 in
theorem mv_map {r c : Int32} : nmp (onRf (mvM r c)) := by
  intro d
  rcases Classical.em (isRf d) with q | q
  · rw [onRf_t q]
    obtain ⟨h0, h1, -⟩ := mvM_k (r := r) (c := c) d
    refine ⟨?_, h1⟩
    rcases h0 with h0 | h0
    · exact Or.inl h0
    · exact Or.inr ⟨q, h0⟩
  · rw [onRf_f q]
    exact ⟨Or.inl rfl, rfl⟩
set_option maxRecDepth 100000 in
theorem mv_s2 {r c : Int32} {N : Nat} {d : Nd} (h : (d 2).toInt < N) : (onRf (mvM r c) d 2).toInt < N := by
  rcases Classical.em (isRf d) with q | q
  · rw [onRf_t q]
    rcases (mvM_k (r := r) (c := c) d).2.2 with h0 | h0
    · rw [h0]
      exact h
    · rw [h0]
      show (-1 : Int) < _
      omega
  · rw [onRf_f q]
    exact h
set_option maxRecDepth 100000 in
theorem mv_okd {r c : Int32} {d : Nd} (h : ndOk d) : ndOk (onRf (mvM r c) d) := by
  rcases Classical.em (isRf d) with q | q
  · rw [onRf_t q]
    exact mv_ok h q
  · rw [onRf_f q]
    exact h
set_option maxRecDepth 100000 in
/-- letters of a node, carried over -/
theorem NM.go {s s1 : aS} {f p g q : Nat} {d e : Nd} {l : List Int32} (h : NM s f p (d 0) l) (hR : ∀ w, RL s f p w → RL s1 g q w) (h0 : e 0 = d 0 ∨ (isRf d ∧ e 0 = 2)) : NM s1 g q (e 0) l := by
  rcases h0 with h0 | ⟨hr, h0⟩
  · rw [h0]
    exact ⟨fun z => hR _ (h.1 z), fun z => hR _ (h.2.1 z), h.2.2⟩
  · rw [h0]
    have el : l = [] := h.2.2 (by
      rcases hr with z | z
      · rw [z]
        decide
      · rw [z]
        decide)
    exact ⟨fun z => absurd z (by decide), fun z => absurd z (by decide), fun _ => el⟩
set_option maxRecDepth 100000 in
theorem RL.of {A : Nat → Nat → Prop} {s s1 : aS} {f p : Nat} {w : List Int32} (h : RL s f p w) (g : ch A s s1) (hA : ∀ a k, A a k → a < 137 ∨ 139 < a) : RL s1 f p w := by
  obtain ⟨st, a1, a2, a3, a4⟩ := h
  exact ⟨st, (g.i fun q => by have := hA _ _ q; omega).trans a1, (g.i fun q => by have := hA _ _ q; omega).trans a2, a3, fun j hj => (g.i fun q => by have := hA _ _ q; omega).trans (a4 j hj)⟩
set_option maxRecDepth 100000 in
theorem MLt.of {A : Nat → Nat → Prop} {s s1 : aS} {fs : Nat → Option Fm} {lt : Nat → Nat → List Int32} (h : MLt s fs lt) (g : ch A s s1) (hA : ∀ a k, A a k → a < 137 ∨ 139 < a) : MLt s1 fs lt := fun f hf h9 L q i hi => (h f hf h9 L q i hi).go (fun w z => z.of g hA) (Or.inl rfl)
