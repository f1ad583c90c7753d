/-! shifted nodes are the same, and as many are lost -/
def ndS (d : Nd) : Prop := -1 ≤ (d 2).toInt ∧ (isRf d → d 1 = 0 ∧ rgP (d 3) 1048576 ∧ rgP (d 5) 1048576 ∧ (d 3).toInt ≤ (d 5).toInt ∧ rgP (d 4) 16384 ∧ rgP (d 6) 16384 ∧ (d 4).toInt ≤ (d 6).toInt)
set_option maxRecDepth 100000 in
theorem on_eq {x y ho : Int32} {d : Nd} (hx : 0 ≤ x.toInt) (h : -1 ≤ (d 2).toInt) (hy : y = if ho = x then 1 else 0) : onC x y d ↔ (isRf d ∧ onS x ho d) := by
  have m1 : d 2 = -1 ↔ (d 2).toInt = -1 := iEq
  have g0 : 0 ≤ d 2 ↔ 0 ≤ (d 2).toInt := iLe
  have ex : d 2 = x ↔ (d 2).toInt = x.toInt := iEq
  have y0 : y ≠ 0 ↔ ho = x := by
    rw [hy]
    by_cases q : ho = x
    · rw [if_pos q]
      exact ⟨fun _ => q, fun _ => by decide⟩
    · rw [if_neg q]
      exact ⟨fun z => absurd rfl z, fun z => absurd z q⟩
  unfold onC onS
  refine ⟨fun z => ⟨z.1, ?_⟩, fun z => ⟨z.1, ?_⟩⟩
  · rcases z.2 with q | ⟨q1, q2⟩
    · exact Or.inl ⟨g0.mpr (by have := ex.mp q; omega), q⟩
    · exact Or.inr ⟨fun w => by have := g0.mp w; have := m1.mp q1; omega, y0.mp q2⟩
  · rcases z.2 with ⟨q1, q2⟩ | ⟨q1, q2⟩
    · exact Or.inl q2
    · refine Or.inr ⟨m1.mpr ?_, y0.mpr q2⟩
      have : ¬ 0 ≤ (d 2).toInt := fun w => q1 (g0.mpr w)
      omega
set_option maxRecDepth 100000 in
theorem last_le (t : Int32) : (lastT t).toInt ≤ 1048576 := by
  unfold lastT
  split <;> decide
set_option maxRecDepth 100000 in
theorem sh_core {t k n : Int32} {d : Nd} (h : isRf d → d 1 = 0 ∧ rgP (d 3) 1048576 ∧ rgP (d 5) 1048576 ∧ (d 3).toInt ≤ (d 5).toInt ∧ rgP (d 4) 16384 ∧ rgP (d 6) 16384 ∧ (d 4).toInt ≤ (d 6).toInt) (hf : isRf d) (hk : rgP k (lastT t)) (hn : wayP n) : shN t k n d = (if b01 (loS t k n (lastT t) d) = 0 then setN (setN d (wA t) (fB (d (wA t)) k n)) (wB t) (lB (d (wB t)) k n (lastT t)) else loM d) ∧ ∀ c, shK t k n d c = if b01 (loS t k n (lastT t) d) = 0 then c else c + 1 := by
  obtain ⟨d1, r3, r5, r35, r4, r6, r46⟩ := h hf
  have hr : rgP (d (wA t)) (lastT t) ∧ rgP (d (wB t)) (lastT t) ∧ (d (wA t)).toInt ≤ (d (wB t)).toInt := by
    by_cases ht : t = 0
    · rw [show wA t = 4 from if_pos ht, show wB t = 6 from if_pos ht, show lastT t = 16384 from if_pos ht]
      exact ⟨r4, r6, r46⟩
    · rw [show wA t = 3 from if_neg ht, show wB t = 5 from if_neg ht, show lastT t = 1048576 from if_neg ht]
      exact ⟨r3, r5, r35⟩
  obtain ⟨ra, rb, rab⟩ := hr
  have hm := last_le t
  unfold wayP at hn
  unfold shN shK loS
  rw [lo_eq d1]
  by_cases q0 : 0 ≤ n
  · have q1 : 0 ≤ n.toInt := iLe.mp q0
    obtain ⟨e1, e2, e3⟩ := sh_put hm ra rb rab hk ⟨q1, hn.2⟩
    simp only [if_pos q0]
    rw [e1] at e3 ⊢
    rw [e2]
    by_cases L : lastT t < fB (d (wA t)) k n
    · rw [b01_t (e3.mp L), b01_f (fun z => z L)]
      exact ⟨rfl, fun c => rfl⟩
    · rw [b01_f (fun z => L (e3.mpr z)), b01_t L]
      exact ⟨rfl, fun c => rfl⟩
  · have q1 : ¬ 0 ≤ n.toInt := fun z => q0 (iLe.mpr z)
    obtain ⟨e1, e2, e3⟩ := sh_take hm ra rb rab hk ⟨hn.1, by omega⟩
    simp only [if_neg q0]
    rw [e1, e2]
    by_cases L : ¬ d (wA t) < k ∧ d (wB t) < k + -n
    · rw [b01_t (e3.mp L), b01_f (fun z => z L)]
      exact ⟨rfl, fun c => rfl⟩
    · rw [b01_f (fun z => L (e3.mpr z)), b01_t L]
      exact ⟨rfl, fun c => rfl⟩
set_option maxRecDepth 100000 in
theorem sh_eq {x y t k n ho : Int32} {d : Nd} (hx : 0 ≤ x.toInt) (h : ndS d) (hy : y = if ho = x then 1 else 0) (hk : rgP k (lastT t)) (hn : wayP n) : shF x y t k n d = shM x t k n (lastT t) ho d ∧ ∀ c, shG x y t k n d c = shC x t k n (lastT t) ho d c := by
  have hq := on_eq hx h.1 hy
  unfold shF shM shG shC
  rw [b01_c hq]
  by_cases q : isRf d ∧ onS x ho d
  · obtain ⟨c1, c2⟩ := sh_core h.2 q.1 hk hn
    rw [b01_t q, if_neg (show ¬ (1 : Int32) = 0 by decide), if_neg (show ¬ (1 : Int32) = 0 by decide)]
    refine ⟨c1, fun c => ?_⟩
    rw [if_neg (show ¬ (1 : Int32) = 0 by decide), if_neg (show ¬ (1 : Int32) = 0 by decide)]
    exact c2 c
  · rw [b01_f q, if_pos rfl, if_pos rfl]
    refine ⟨rfl, fun c => ?_⟩
    rw [if_pos rfl, if_pos rfl]
set_option maxRecDepth 100000 in
theorem scn_eq {x y t k n ho : Int32} {F : Nat → Nd} (hx : 0 ≤ x.toInt) (hy : y = if ho = x then 1 else 0) (hk : rgP k (lastT t)) (hn : wayP n) : ∀ (q j : Nat) (c : Int32), (∀ i, j ≤ i → i < j + q → ndS (F i)) → scC x y t k n F q j c = scM x t k n (lastT t) ho F q j c := by
  intro q
  induction q with
  | zero => intro j c _; rfl
  | succ q ih =>
    intro j c h
    show scC x y t k n F q (j + 1) (shG x y t k n (F j) c) = scM x t k n (lastT t) ho F q (j + 1) (shC x t k n (lastT t) ho (F j) c)
    rw [(sh_eq hx (h j (by omega) (by omega)) hy hk hn).2 c]
    exact ih (j + 1) _ fun i h1 h2 => h i (by omega) (by omega)
