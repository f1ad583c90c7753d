/-! the writer of FormulaTrees comes to its end -/
def AS (s : aS) : Prop := ∀ k, k < 38 → aK s (2 * k + 1) 70 ∧ ∃ u, ST s (2 * k + 1) u ∧ u.length ≤ 100 ∧ ∀ x ∈ u, 0 ≤ x.toInt ∧ x.toInt ≤ 127
set_option maxRecDepth 100000 in
theorem AS.ly {tt : Nat} {xs : List Int32} {s : aS} (h : Ly tt (cCc xs) s) : AS s := by
  intro k hk
  have h1 : ∀ k : Fin 38, (zTz.getD (2 * k.val + 1) (0, 0)).1 = 70 := by decide +kernel
  have h2 : ∀ k : Fin 38, (zTx.getD k.val ("", 0, [])).2.2.length ≤ 100 ∧ ∀ x ∈ (zTx.getD k.val ("", 0, [])).2.2, 0 ≤ x.toInt ∧ x.toInt ≤ 127 := by decide +kernel
  have h78 : zK = 78 := rfl
  exact ⟨Lay.lowK h (by omega) ⟨by omega, h1 ⟨k, hk⟩⟩, _, ST.ly h k hk, (h2 ⟨k, hk⟩).1, (h2 ⟨k, hk⟩).2⟩
def wrC (a k : Nat) : Prop := (a = 117 ∧ 4 ≤ k ∧ k ≠ 5) ∨ a = 118 ∨ a = 119 ∨ a = 120
def wrD (a k : Nat) : Prop := a = 117 ∧ (k = 8 ∨ k = 10)
def FS (s : aS) (b : Nat) (ns : List (List Int32)) : Prop := sR s 117 5 = .ref b ∧ aK s b 3 ∧ (b = 102 ∨ 149 ≤ b) ∧ (∃ N u, N ≤ 128 ∧ sI s b 2 = Int32.ofNat N ∧ TL s b u ∧ ∀ k, k < N → ∃ l, NL s b k u l) ∧ (sT s (b + 3)).2 = 256 ∧ SC s ns ∧ nsOk ns ∧ RC s ∧ AS s
set_option maxRecDepth 100000 in
theorem FS.of {s s1 : aS} {b : Nat} {ns : List (List Int32)} (h : FS s b ns) (g : ch wrC s s1) : FS s1 b ns := by
  obtain ⟨a1, a2, a3, ⟨N, u, b1, b2, b3, b4⟩, a5, a6, a7, a8, a9⟩ := h
  have hlow : ∀ a k, wrC a k → 78 ≤ a := fun a k z => by unfold wrC at z; omega
  have h8 := a7.1
  refine ⟨(g.r (by unfold wrC; omega)).trans a1, g.k.mpr a2, a3, ⟨N, u, b1, (g.i (by unfold wrC; omega)).trans b2, b3.of g (by unfold wrC; omega) (fun k => by unfold wrC; omega), fun k hk => ?_⟩, by rw [g.2.1]; exact a5, ⟨(g.i (by unfold wrC; omega)).trans a6.1, fun i hi => (a6.2 i hi).of g (by unfold wrC; omega) (fun j => by unfold wrC; omega)⟩, a7, a8.of g, fun k hk => ?_⟩
  · obtain ⟨l, st, e1, e2, e3, e4⟩ := b4 k hk
    exact ⟨l, st, (g.i (by unfold wrC; omega)).trans e1, (g.i (by unfold wrC; omega)).trans e2, e3, e4⟩
  · obtain ⟨c1, u, c2, c3⟩ := a9 k hk
    exact ⟨g.k.mpr c1, u, c2.of (by omega) g hlow, c3⟩
def Wc (D : Option aS) (s : aS) : Prop := ∃ s', D = some s' ∧ ch wrD s s'
set_option maxRecDepth 100000 in
theorem Wc.b {D : Option aS} {K : aS → Option aS} {s : aS} (h : Wc D s) (k : ∀ s1, ch wrD s s1 → Wc (K s1) s1) : Wc (bu D K) s := by
  obtain ⟨s1, h1, h2⟩ := h
  rw [h1]
  obtain ⟨s2, k1, k2⟩ := k s1 h2
  exact ⟨s2, k1, h2.trans k2⟩
set_option maxRecDepth 100000 in
theorem Wc.s (s : aS) : Wc (some s) s := ⟨s, rfl, ch.refl _ s⟩
set_option maxRecDepth 100000 in
theorem dc {s s1 : aS} (h : ch wrD s s1) : ch wrC s s1 := h.mono fun a k z => by unfold wrD at z; unfold wrC; omega
set_option maxRecDepth 100000 in
theorem c141 (x : Int32) (s : aS) : Wc (dm141 x s) s := by
  unfold dm141 dm141_8
  simp only [nx_eq]
  split
  · exact ⟨_, rfl, ((ch.refl _ s).wI ⟨rfl, Or.inr rfl⟩).wI ⟨rfl, Or.inl rfl⟩⟩
  · exact ⟨_, rfl, (ch.refl _ s).wI ⟨rfl, Or.inl rfl⟩⟩
section CW
variable {s : aS} {b : Nat} {ns : List (List Int32)}
set_option maxRecDepth 100000 in
theorem c57 (h : FS s b ns) (x : Int32) (w : Nat) (hw : w < 11) : ∃ v, dm57 b x (Int32.ofNat w) s = some v ∧ (w = 10 → v.toInt ≤ 256) := by
  obtain ⟨a1, a2, a3, ⟨N, u, b1, b2, b3, b4⟩, -⟩ := h
  by_cases c : 0 ≤ x.toInt ∧ x.toInt < N
  · obtain ⟨k, hk⟩ : ∃ k, k = x.toInt.toNat := ⟨_, rfl⟩
    have ex : x = Int32.ofNat k := by rw [hk]; exact ofNat_of c.1
    rw [ex, d57 b2 b1 (by omega) hw]
    refine ⟨_, rfl, fun q => ?_⟩
    subst q
    obtain ⟨l, st, e1, e2, e3, e4⟩ := b4 k (by omega)
    have := b3.2.1
    rw [e2, iOfNat (by omega)]
    omega
  · refine ⟨-1, ?_, fun _ => by decide⟩
    unfold dm57 dm57_13 dm57_14
    by_cases c1 : x < 0
    · rw [if_pos c1, if_pos rfl]
    · have z1 : ¬ x.toInt < 0 := fun q => c1 (iLt.mpr q)
      have c2 : sI s b 2 ≤ x := by
        rw [b2, iLe, iOfNat (by omega)]
        omega
      rw [if_neg c1, if_pos c2, if_pos rfl]
set_option maxRecDepth 100000 in
theorem c34 {s : aS} {a : Nat} {u : List Int32} (h : LT s a u) (hT : u.length ≤ (sT s (a + 1)).2) (hu : u.length ≤ 1000) (x : Int32) : ∃ v, dm34 a x s = some v := by
  unfold dm34
  by_cases c1 : x < 0
  · rw [if_pos c1]
    exact ⟨_, rfl⟩
  · rw [if_neg c1, h.n]
    by_cases c2 : Int32.ofNat u.length ≤ x
    · rw [if_pos c2]
      exact ⟨_, rfl⟩
    · have z1 : ¬ x.toInt < 0 := fun q => c1 (iLt.mpr q)
      have z2 : ¬ (u.length : Int) ≤ x.toInt := fun q => c2 (iLe.mpr (by rw [iOfNat (by omega)]; exact q))
      rw [if_neg c2, if_pos (by rw [aB_iff]; omega)]
      exact ⟨_, rfl⟩
set_option maxRecDepth 100000 in
theorem c144 (h : FS s b ns) (x y : Int32) : ∃ v, dm144 b x y s = some v := by
  obtain ⟨v9, e9, -⟩ := c57 h x 9 (by omega)
  obtain ⟨v10, e10, -⟩ := c57 h x 10 (by omega)
  have e9 : dm57 b x 9 s = some v9 := e9
  have e10 : dm57 b x 10 s = some v10 := e10
  obtain ⟨-, -, -, ⟨N, u, b1, b2, b3, b4⟩, a5, -⟩ := h
  obtain ⟨w, ew⟩ := c34 (x := v9 + y) b3.1 (by show u.length ≤ (sT s (b + 3)).2; rw [a5]; exact b3.2.1) (by have := b3.2.1; omega)
  unfold dm144 dm144_10 dm144_11
  rw [e10, e9]
  simp only [bu_some]
  rw [ew]
  simp only [bu_some]
  repeat' split
  all_goals exact ⟨_, rfl⟩
set_option maxRecDepth 100000 in
theorem c146 (x y : Int32) (s : aS) : Wc (dm146 x y s) s := by
  unfold dm146
  refine (c141 x s).b fun s1 c1 => ?_
  split
  · exact (c141 x s1).b fun s2 c2 => Wc.s s2
  · exact Wc.s s1
set_option maxRecDepth 100000 in
theorem c143 (h : FS s b ns) (x : Int32) : Wc (dm143 x s) s := by
  have loop : ∀ (m j n : Nat) (s : aS), FS s b ns → j + m = 257 → m < n → Wc (dm143_2 n x (Int32.ofNat j) s) s := by
    intro m
    induction m with
    | zero =>
      intro j n s h h1 h2
      obtain ⟨n, rfl⟩ : ∃ q, n = q + 1 := ⟨n - 1, by omega⟩
      obtain ⟨v, e, e2⟩ := c57 h x 10 (by omega)
      have e : dm57 b x 10 s = some v := e
      rw [dm143_2, h.1, vN_ref, if_pos h.2.1, e]
      simp only [bu_some]
      rw [if_pos (by rw [iLe, iOfNat (by omega)]; have := e2 rfl; omega)]
      exact Wc.s s
    | succ m ih =>
      intro j n s h h1 h2
      obtain ⟨n, rfl⟩ : ∃ q, n = q + 1 := ⟨n - 1, by omega⟩
      obtain ⟨v, e, e2⟩ := c57 h x 10 (by omega)
      have e : dm57 b x 10 s = some v := e
      obtain ⟨w, ew⟩ := c144 h x (Int32.ofNat j)
      rw [dm143_2, h.1, vN_ref, if_pos h.2.1, e]
      simp only [bu_some, vN_ref]
      rw [if_pos h.2.1, ew]
      simp only [bu_some]
      split
      · exact Wc.s s
      · refine (c141 w s).b fun s1 c1 => ?_
        rw [ofNat_succ (by omega)]
        exact ih (j + 1) n s1 (h.of (dc c1)) (by omega) (by omega)
  exact loop 257 0 5000 s h (by omega) (by omega)
set_option maxRecDepth 100000 in
theorem c145 (h : FS s b ns) (x : Int32) : Wc (dm145 x s) s := by
  have loop : ∀ (m j n : Nat) (s : aS), FS s b ns → j + m = 257 → m < n → Wc (dm145_5 n x (Int32.ofNat j) s) s := by
    intro m
    induction m with
    | zero =>
      intro j n s h h1 h2
      obtain ⟨n, rfl⟩ : ∃ q, n = q + 1 := ⟨n - 1, by omega⟩
      obtain ⟨v, e, e2⟩ := c57 h x 10 (by omega)
      have e : dm57 b x 10 s = some v := e
      rw [dm145_5, h.1, vN_ref, if_pos h.2.1, e]
      simp only [bu_some]
      rw [if_pos (by rw [iLe, iOfNat (by omega)]; have := e2 rfl; omega)]
      exact (c141 34 s).b fun s1 c1 => Wc.s s1
    | succ m ih =>
      intro j n s h h1 h2
      obtain ⟨n, rfl⟩ : ∃ q, n = q + 1 := ⟨n - 1, by omega⟩
      obtain ⟨v, e, e2⟩ := c57 h x 10 (by omega)
      have e : dm57 b x 10 s = some v := e
      obtain ⟨w, ew⟩ := c144 h x (Int32.ofNat j)
      rw [dm145_5, h.1, vN_ref, if_pos h.2.1, e]
      simp only [bu_some, vN_ref]
      rw [if_pos h.2.1, ew]
      simp only [bu_some]
      split
      · exact (c141 34 s).b fun s1 c1 => Wc.s s1
      · refine (c146 w 34 s).b fun s1 c1 => ?_
        rw [ofNat_succ (by omega)]
        exact ih (j + 1) n s1 (h.of (dc c1)) (by omega) (by omega)
  unfold dm145
  exact (c141 34 s).b fun s1 c1 => loop 257 0 5000 s1 (h.of (dc c1)) (by omega) (by omega)
set_option maxRecDepth 100000 in
theorem c147 {k : Nat} (h : FS s b ns) (hk : k < 38) : Wc (dm147 (2 * k + 1) s) s := by
  have loop : ∀ (m j n : Nat) (s : aS) (u : List Int32), FS s b ns → ST s (2 * k + 1) u → u.length ≤ 100 → (∀ x ∈ u, 0 ≤ x.toInt ∧ x.toInt ≤ 127) → j + m = u.length → m < n → Wc (dm147_2 n (2 * k + 1) (Int32.ofNat j) s) s := by
    intro m
    induction m with
    | zero =>
      intro j n s u h hu h3 h4 h1 h2
      obtain ⟨n, rfl⟩ : ∃ q, n = q + 1 := ⟨n - 1, by omega⟩
      rw [dm147_2, d254 hu (by omega)]
      simp only [bu_some]
      rw [if_pos ((nle_iff (by omega) (by omega)).mpr (by omega))]
      exact Wc.s s
    | succ m ih =>
      intro j n s u h hu h3 h4 h1 h2
      obtain ⟨n, rfl⟩ : ∃ q, n = q + 1 := ⟨n - 1, by omega⟩
      have hj : j < u.length := by omega
      rw [dm147_2, d254 hu (by omega)]
      simp only [bu_some]
      rw [if_neg (fun q => by have := (nle_iff (by omega) (by omega)).mp q; omega), d259 hu (by omega) hj (h4 _ (List.getElem_mem hj))]
      simp only [bv_some]
      refine (c141 _ s).b fun s1 c1 => ?_
      rw [ofNat_succ (by omega)]
      exact ih (j + 1) n s1 u (h.of (dc c1)) (hu.of (by omega) c1 (fun a k z => by unfold wrD at z; omega)) h3 h4 (by omega) (by omega)
  obtain ⟨-, u, u1, u2, u3⟩ := h.2.2.2.2.2.2.2.2 k hk
  exact loop u.length 0 5000 s u h u1 u2 u3 (by omega) (by omega)
set_option maxRecDepth 100000 in
theorem c151 (h : FS s b ns) (x y : Int32) : ∃ v, dm151 x y s = some v := by
  have h8 := h.2.2.2.2.2.2.1.1
  have hr := h.2.2.2.2.2.2.2.1
  unfold dm151
  rw [d40 h.2.2.2.2.2.1 h8 x]
  simp only [bu_some]
  by_cases c : 0 ≤ x.toInt ∧ x.toInt < ns.length
  · rw [b01_t c, if_neg (by decide), if_pos (by rw [aB_iff]; omega)]
    have hi : x.toInt.toNat < ns.length := by omega
    have hl := (h.2.2.2.2.2.2.1.2 _ (List.getElem_mem hi)).2.1
    obtain ⟨v, e⟩ := c34 (x := y) (h.2.2.2.2.2.1.2 _ hi) (by rw [show 84 + 2 * x.toInt.toNat + 1 = 85 + 2 * x.toInt.toNat by omega, hr.2 _ (by omega)]; exact hl) (by omega)
    rw [jN_eq, e]
    exact ⟨_, rfl⟩
  · rw [b01_f c, if_pos rfl]
    exact ⟨_, rfl⟩
set_option maxRecDepth 100000 in
theorem c149 (h : FS s b ns) (x : Int32) : Wc (dm149 x s) s := by
  have h8 := h.2.2.2.2.2.2.1.1
  have e150 : ∃ v, dm150 x s = some v := by
    unfold dm150
    rw [d40 h.2.2.2.2.2.1 h8 x]
    simp only [bu_some]
    by_cases c : 0 ≤ x.toInt ∧ x.toInt < ns.length
    · rw [b01_t c, if_neg (by decide), if_pos (by rw [aB_iff]; omega)]
      split <;> exact ⟨_, rfl⟩
    · rw [b01_f c, if_pos rfl]
      exact ⟨_, rfl⟩
  have f32 : ∀ y s, Wc (dm149_32 y s) s := fun y s => by
    unfold dm149_32 dm149_37
    split
    · exact (c141 _ s).b fun s1 c1 => Wc.s s1
    · exact (c141 _ s).b fun s1 c1 => (c141 _ s1).b fun s2 c2 => Wc.s s2
  have loop : ∀ (m j n : Nat) (y : Int32) (s : aS), FS s b ns → j + m = 31 → m < n → Wc (dm149_12 n x y (Int32.ofNat j) s) s := by
    intro m
    induction m with
    | zero =>
      intro j n y s h h1 h2
      obtain ⟨n, rfl⟩ : ∃ q, n = q + 1 := ⟨n - 1, by omega⟩
      have : j = 31 := by omega
      subst this
      rw [dm149_12, if_pos (by decide)]
      exact f32 y s
    | succ m ih =>
      intro j n y s h h1 h2
      obtain ⟨n, rfl⟩ : ∃ q, n = q + 1 := ⟨n - 1, by omega⟩
      obtain ⟨v, e⟩ := c151 h x (Int32.ofNat j)
      rw [dm149_12, if_neg (fun q => by have := (nle_iff (a := 31) (by omega) (by omega)).mp q; omega), e]
      simp only [bu_some]
      split
      · exact f32 y s
      · refine (c146 v 39 s).b fun s1 c1 => ?_
        rw [ofNat_succ (by omega)]
        exact ih (j + 1) n y s1 (h.of (dc c1)) (by omega) (by omega)
  obtain ⟨v, e⟩ := e150
  unfold dm149 dm149_10
  rw [e]
  simp only [bu_some]
  split
  · exact loop 31 0 5000 _ s h (by omega) (by omega)
  · exact (c141 _ s).b fun s1 c1 => loop 31 0 5000 _ s1 (h.of (dc c1)) (by omega) (by omega)
set_option maxRecDepth 100000 in
theorem c154 (x : Int32) (s : aS) : Wc (dm154 x s) s := by
  have loop : ∀ (m u n : Nat) (s : aS), u < 10 ^ m → m ≤ 9 → m < n → Wc (dm154_2 n x (Int32.ofNat u) s) s := by
    intro m
    induction m with
    | zero =>
      intro u n s h1 h2 h3
      obtain ⟨n, rfl⟩ : ∃ q, n = q + 1 := ⟨n - 1, by omega⟩
      have : u = 0 := by rw [Nat.pow_zero] at h1; omega
      subst this
      rw [dm154_2, if_pos (by decide)]
      exact Wc.s s
    | succ m ih =>
      intro u n s h1 h2 h3
      obtain ⟨n, rfl⟩ : ∃ q, n = q + 1 := ⟨n - 1, by omega⟩
      have hp : 10 ^ (m + 1) ≤ 10 ^ 9 := Nat.pow_le_pow_right (by decide) h2
      have hp9 : 10 ^ 9 = 1000000000 := by decide
      have hu : (Int32.ofNat u).toInt = u := iOfNat (by omega)
      have e : Int32.ofNat u / 10 = Int32.ofNat (u / 10) := by
        rw [iEq, iDiv (y := 10) (by omega) (by decide), hu, iOfNat (by omega)]
        show (u : Int) / 10 = ((u / 10 : Nat) : Int)
        omega
      have nxt : ∀ s, Wc (dm154_16 (dm154_2 n) x (Int32.ofNat u) s) s := fun s => by
        unfold dm154_16
        rw [e]
        refine ih (u / 10) n s ?_ (by omega) (by omega)
        rw [Nat.pow_succ] at h1
        omega
      rw [dm154_2]
      by_cases c : u = 0
      · subst c
        rw [if_pos (by decide)]
        exact Wc.s s
      · rw [if_neg (by rw [iLe, hu]; show ¬ (u : Int) ≤ 0; omega)]
        split
        · exact nxt s
        · rw [if_pos (fun q => by have := iEq.mp q; rw [hu] at this; have t0 : (0 : Int32).toInt = 0 := rfl; omega)]
          exact (c141 _ s).b fun s1 c1 => nxt s1
  exact loop 7 1000000 5000 s (by decide) (by omega) (by omega)
set_option maxRecDepth 100000 in
theorem c152 (x1 x2 x3 : Int32) (s : aS) : Wc (dm152 x1 x2 x3 s) s := by
  have f153 : ∀ s, Wc (dm153 x2 s) s := fun s => by
    have g32 : ∀ y s, Wc (dm153_32 y s) s := fun y s => by
      unfold dm153_32
      exact (c141 _ s).b fun s1 c1 => Wc.s s1
    have g18 : ∀ y s, Wc (dm153_18 y s) s := fun y s => by
      unfold dm153_18
      split
      · exact g32 y s
      · exact (c141 _ s).b fun s1 c1 => g32 y s1
    unfold dm153
    split
    · exact g18 _ s
    · exact (c141 _ s).b fun s1 c1 => g18 _ s1
  have f17 : ∀ s, Wc (dm152_17 x1 s) s := fun s => by
    unfold dm152_17
    exact (c154 x1 s).b fun s1 c1 => Wc.s s1
  have f7 : ∀ s, Wc (dm152_7 x1 x2 x3 s) s := fun s => by
    unfold dm152_7
    refine (f153 s).b fun s1 c1 => ?_
    split
    · exact f17 s1
    · exact (c141 _ s1).b fun s2 c2 => f17 s2
  unfold dm152
  split
  · exact f7 s
  · exact (c141 _ s).b fun s1 c1 => f7 s1
end CW
