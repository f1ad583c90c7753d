/-! the reference's writer comes to its end: small pieces -/
def wrA (a k : Nat) : Prop := a = 121 ∧ (k = 42 ∨ k = 44)
def Wt (D : Option aS) (s : aS) : Prop := ∃ s', D = some s' ∧ ch wrA s s'
set_option maxRecDepth 100000 in
theorem Wt.b {D : Option aS} {K : aS → Option aS} {s : aS} (h : Wt D s) (k : ∀ s1, ch wrA s s1 → Wt (K s1) s) : Wt (bu D K) s := by
  obtain ⟨s1, h1, h2⟩ := h
  rw [h1]
  exact k s1 h2
set_option maxRecDepth 100000 in
theorem Wt.s {s s1 : aS} (h : ch wrA s s1) : Wt (some s1) s := ⟨s1, rfl, h⟩
set_option maxRecDepth 100000 in
theorem Wt.t {D : Option aS} {s s1 : aS} (h : ch wrA s s1) (g : Wt D s1) : Wt D s := by
  obtain ⟨s2, g1, g2⟩ := g
  exact ⟨s2, g1, h.trans g2⟩
set_option maxRecDepth 100000 in
theorem w235 (c : Int32) (s : aS) : Wt (dm235 c s) s := by
  unfold dm235 dm235_10
  simp only [nx_eq]
  split <;> exact ⟨_, rfl, ((ch.refl _ s).wI ⟨rfl, Or.inr rfl⟩).wI ⟨rfl, Or.inl rfl⟩⟩
set_option maxRecDepth 100000 in
theorem iDiv {x y : Int32} (h0 : 0 ≤ x.toInt) (h1 : 0 < y.toInt) : (x / y).toInt = x.toInt / y.toInt := by
  have hx := iRange x
  have hle : x.toInt / y.toInt ≤ x.toInt := Int.ediv_le_self _ h0
  have hge : 0 ≤ x.toInt / y.toInt := Int.ediv_nonneg h0 (by omega)
  rw [Int32.toInt_div, Int.tdiv_eq_ediv_of_nonneg h0]
  exact Int.bmod_eq_of_le (by omega) (by omega)
set_option maxRecDepth 100000 in
theorem w242b {x1 : Int32} : ∀ (m u n : Nat) (s : aS), u < 10 ^ m → m ≤ 9 → m < n → Wt (dm242_12 n x1 (Int32.ofNat u) s) s := by
  intro m
  induction m with
  | zero =>
    intro u n s h1 h2 h3
    obtain ⟨n, rfl⟩ : ∃ q, n = q + 1 := ⟨n - 1, by omega⟩
    have : u = 0 := by rw [Nat.pow_zero] at h1; omega
    subst this
    rw [dm242_12, if_pos (by decide)]
    exact Wt.s (ch.refl _ s)
  | succ m ih =>
    intro u n s h1 h2 h3
    obtain ⟨n, rfl⟩ : ∃ q, n = q + 1 := ⟨n - 1, by omega⟩
    have hp : 10 ^ (m + 1) ≤ 10 ^ 9 := Nat.pow_le_pow_right (by decide) h2
    have hp9 : 10 ^ 9 = 1000000000 := by decide
    have hu : (Int32.ofNat u).toInt = u := iOfNat (by omega)
    rw [dm242_12]
    by_cases c : u = 0
    · subst c
      rw [if_pos (by decide)]
      exact Wt.s (ch.refl _ s)
    · rw [if_neg (by rw [iLe, hu]; show ¬ (u : Int) ≤ 0; omega), if_pos (fun q => by have := iEq.mp q; rw [hu] at this; have t0 : (0 : Int32).toInt = 0 := rfl; omega)]
      refine (w235 _ s).b fun s1 c1 => ?_
      have e : Int32.ofNat u / 10 = Int32.ofNat (u / 10) := by
        rw [iEq, iDiv (y := 10) (by omega) (by decide), hu, iOfNat (by omega)]
        show (u : Int) / 10 = ((u / 10 : Nat) : Int)
        omega
      rw [e]
      refine Wt.t c1 (ih (u / 10) n s1 ?_ (by omega) (by omega))
      rw [Nat.pow_succ] at h1
      omega
set_option maxRecDepth 100000 in
theorem w242a {x1 : Int32} (hx : 0 ≤ x1.toInt ∧ x1.toInt ≤ 1048576) : ∀ (m u n : Nat) (s : aS), u * 10 ^ m = 1000000 → m ≤ 6 → m < n → Wt (dm242_2 n x1 (Int32.ofNat u) s) s := by
  have hd : (x1 / 10).toInt = x1.toInt / 10 := iDiv (y := 10) hx.1 (by decide)
  intro m
  induction m with
  | zero =>
    intro u n s h1 h2 h3
    obtain ⟨n, rfl⟩ : ∃ q, n = q + 1 := ⟨n - 1, by omega⟩
    have : u = 1000000 := by rw [Nat.pow_zero, Nat.mul_one] at h1; exact h1
    subst this
    rw [dm242_2, if_pos (by rw [iLt, hd, iOfNat (by omega)]; show x1.toInt / 10 < 1000000; omega)]
    exact w242b 7 1000000 5000 s (by decide) (by omega) (by omega)
  | succ m ih =>
    intro u n s h1 h2 h3
    obtain ⟨n, rfl⟩ : ∃ q, n = q + 1 := ⟨n - 1, by omega⟩
    have hu : u ≤ 1000000 := by
      have : 10 ^ 0 ≤ 10 ^ (m + 1) := Nat.pow_le_pow_right (by decide) (by omega)
      rw [Nat.pow_zero] at this
      calc u = u * 1 := (Nat.mul_one u).symm
        _ ≤ u * 10 ^ (m + 1) := Nat.mul_le_mul_left u this
        _ = 1000000 := h1
    rw [dm242_2]
    by_cases c : x1 / 10 < Int32.ofNat u
    · rw [if_pos c]
      exact w242b 7 u 5000 s (by have : (10 : Nat) ^ 7 = 10000000 := by decide
                                 omega) (by omega) (by omega)
    · rw [if_neg c]
      have e : 10 * Int32.ofNat u = Int32.ofNat (10 * u) := by
        rw [iEq, iMul (x := 10) (by rw [iOfNat (by omega)]; show _ ≤ (10 : Int) * u; omega) (by rw [iOfNat (by omega)]; show (10 : Int) * u ≤ _; omega), iOfNat (by omega), iOfNat (by omega)]
        show (10 : Int) * u = ((10 * u : Nat) : Int)
        omega
      rw [e]
      refine ih (10 * u) n s ?_ (by omega) (by omega)
      rw [Nat.pow_succ] at h1
      rw [← h1, Nat.mul_comm 10 u, Nat.mul_assoc, Nat.mul_comm 10 (10 ^ m)]
set_option maxRecDepth 100000 in
theorem w242 {x1 : Int32} (hx : 0 ≤ x1.toInt ∧ x1.toInt ≤ 1048576) (s : aS) : Wt (dm242 x1 s) s := w242a hx 6 1 5000 s (by decide) (by omega) (by omega)
set_option maxRecDepth 100000 in
theorem w241 {x1 x2 x3 : Int32} (hx : 0 ≤ x1.toInt ∧ x1.toInt ≤ 1048576) (s : aS) : Wt (dm241 x1 x2 x3 s) s := by
  have h51 : ∀ s, Wt (dm241_51 x1 s) s := fun s => by
    unfold dm241_51
    exact (w242 hx s).b fun s1 c1 => Wt.s c1
  have h35 : ∀ s, Wt (dm241_35 x1 x2 x3 s) s := fun s => by
    unfold dm241_35
    refine (w235 _ s).b fun s1 c1 => Wt.t c1 ?_
    split
    · exact h51 s1
    · exact (w235 _ s1).b fun s2 c2 => Wt.t c2 (h51 s2)
  have h21 : ∀ s, Wt (dm241_21 x1 x2 x3 s) s := fun s => by
    unfold dm241_21
    split
    · exact h35 s
    · exact (w235 _ s).b fun s1 c1 => Wt.t c1 (h35 s1)
  have h7 : ∀ s, Wt (dm241_7 x1 x2 x3 s) s := fun s => by
    unfold dm241_7
    split
    · exact h21 s
    · exact (w235 _ s).b fun s1 c1 => Wt.t c1 (h21 s1)
  unfold dm241
  split
  · exact h7 s
  · exact (w235 _ s).b fun s1 c1 => Wt.t c1 (h7 s1)
set_option maxRecDepth 100000 in
/-- a name's quotes: whatever it answers -/
theorem w240 {s : aS} {i L : Nat} {W : Int64} {u : Nat} (hi : i < 8) (hL : sI s 123 i = Int32.ofNat L) (h31 : L ≤ 31) (hu : u ≤ 5) : ∃ v, dm240 (Int32.ofNat i) W (Int32.ofNat u) s = some v := by
  have b8 : aB (Int32.ofNat i) 8 := aB_of hi (by omega)
  have j8 : jN (Int32.ofNat i) = i := jN_of (by omega)
  have loop0 : ∀ n x6, ∃ v, dm240_12 (n + 1) (Int32.ofNat i) W (Int32.ofNat u) 0 x6 s = some v := by
    intro n x6
    rw [dm240_12]
    split
    · exact ⟨0, by rw [if_pos (Or.inl rfl)]⟩
    · exact ⟨0, by rw [if_pos rfl, if_pos (Or.inl rfl)]⟩
  have loop : ∀ (m j n : Nat), j + m = u → m + 1 < n → ∃ v, dm240_12 n (Int32.ofNat i) W (Int32.ofNat u) 1 (Int32.ofNat j) s = some v := by
    intro m
    induction m with
    | zero =>
      intro j n h1 h2
      obtain ⟨n, rfl⟩ : ∃ q, n = q + 1 := ⟨n - 1, by omega⟩
      rw [dm240_12, if_pos ((nle_iff (by omega) (by omega)).mpr (by omega)), if_pos (Or.inr rfl)]
      exact ⟨1, rfl⟩
    | succ m ih =>
      intro j n h1 h2
      obtain ⟨n, rfl⟩ : ∃ q, n = q + 2 := ⟨n - 2, by omega⟩
      rw [dm240_12, if_neg (fun q => by have := (nle_iff (by omega) (by omega)).mp q; omega), if_neg (by decide), iLin (by omega) (by omega), if_pos (aB_of (n := 256) (by omega) (by omega))]
      simp only [d178, bu_some]
      unfold dm240_42
      rw [ofNat_succ (by omega)]
      split
      · exact ih (j + 1) (n + 1) (by omega) (by omega)
      · exact loop0 n _
  unfold dm240 dm240_9
  rw [if_pos b8, j8, hL]
  split
  · exact loop u 0 5000 (by omega) (by omega)
  · exact loop0 4999 0
set_option maxRecDepth 100000 in
theorem w239 {s : aS} {i L : Nat} (hi : i < 8) (hL : sI s 123 i = Int32.ofNat L) (h31 : L ≤ 31) : ∃ v, dm239 (Int32.ofNat i) s = some v := by
  have b8 : aB (Int32.ofNat i) 8 := aB_of hi (by omega)
  have j8 : jN (Int32.ofNat i) = i := jN_of (by omega)
  have h79 : ∀ x2 y0, ∃ v, dm239_79 (Int32.ofNat i) x2 y0 s = some v := by
    intro x2 y0
    unfold dm239_79 dm239_96
    obtain ⟨v1, e1⟩ := w240 (W := 1414681925) (u := 4) hi hL h31 (by omega)
    obtain ⟨v2, e2⟩ := w240 (W := 301743231813) (u := 5) hi hL h31 (by omega)
    have e1 : dm240 (Int32.ofNat i) 1414681925 4 s = some v1 := e1
    have e2 : dm240 (Int32.ofNat i) 301743231813 5 s = some v2 := e2
    rw [e1, e2]
    simp only [bu_some]
    repeat' split
    all_goals exact ⟨_, rfl⟩
  have loop : ∀ (m j n : Nat) (x2 x3 x4 : Int32), j + m = L → m < n → ∃ v, dm239_14 n (Int32.ofNat i) x2 x3 x4 (Int32.ofNat j) s = some v := by
    intro m
    induction m with
    | zero =>
      intro j n x2 x3 x4 h1 h2
      obtain ⟨n, rfl⟩ : ∃ q, n = q + 1 := ⟨n - 1, by omega⟩
      rw [dm239_14]
      simp only [if_pos b8, j8, hL]
      rw [if_pos ((nle_iff (by omega) (by omega)).mpr (by omega))]
      unfold dm239_78
      repeat' split
      all_goals exact h79 _ _
    | succ m ih =>
      intro j n x2 x3 x4 h1 h2
      obtain ⟨n, rfl⟩ : ∃ q, n = q + 1 := ⟨n - 1, by omega⟩
      rw [dm239_14]
      simp only [if_pos b8, j8, hL]
      rw [if_neg (fun q => by have := (nle_iff (by omega) (by omega)).mp q; omega), iLin (by omega) (by omega)]
      simp only [if_pos (aB_of (i := 32 * i + j) (n := 256) (by omega) (by omega)), d211, bu_some]
      unfold dm239_36 dm239_37 dm239_47 dm239_48 dm239_57
      simp only [d198, d196, bu_some]
      rw [ofNat_succ (by omega)]
      repeat' split
      all_goals exact ih (j + 1) n _ _ _ (by omega) (by omega)
  have e0 : (32 : Int32) * Int32.ofNat i = Int32.ofNat (32 * i) := by
    have := iLin (i := i) (j := 0) (by omega) (by omega)
    rw [Nat.add_zero] at this
    rw [← this, show Int32.ofNat 0 = 0 from rfl, Int32.add_zero]
  unfold dm239
  rw [e0, if_pos (aB_of (n := 256) (by omega) (by omega)), d197]
  simp only [bu_some]
  exact loop L 0 5000 _ _ _ (by omega) (by omega)
set_option maxRecDepth 100000 in
theorem w238 {s : aS} {ns : List (List Int32)} {x : Int32} (hs : SM s ns) (hn : nsOk ns) (hx : -1 ≤ x.toInt ∧ x.toInt < ns.length) : Wt (dm238 x s) s := by
  unfold dm238
  by_cases c : 0 ≤ x
  · rw [if_pos c]
    have c : 0 ≤ x.toInt := iLe.mp c
    have h8 := hn.1
    obtain ⟨i, hi⟩ : ∃ i, i = x.toInt.toNat := ⟨_, rfl⟩
    have ex : x = Int32.ofNat i := by rw [hi]; exact ofNat_of c
    subst ex
    have hil : i < ns.length := by omega
    have h31 := (hn.2 ns[i] (List.getElem_mem hil)).2.1
    obtain ⟨v, e⟩ := w239 (s := s) (i := i) (by omega) (hs.2 i hil).1 h31
    have b8 : aB (Int32.ofNat i) 8 := aB_of (by omega) (by omega)
    have j8 : jN (Int32.ofNat i) = i := jN_of (by omega)
    have h45 : ∀ s, Wt (dm238_45 s) s := fun s => by
      unfold dm238_45
      exact (w235 _ s).b fun s1 c1 => Wt.s c1
    have loop : ∀ (m j n : Nat) (x2 : Int32) (s1 : aS), ch wrA s s1 → j + m = ns[i].length → m < n → Wt (dm238_14 n (Int32.ofNat i) x2 (Int32.ofNat j) s1) s1 := by
      intro m
      induction m with
      | zero =>
        intro j n x2 s1 h0 h1 h2
        obtain ⟨n, rfl⟩ : ∃ q, n = q + 1 := ⟨n - 1, by omega⟩
        have hL : sI s1 123 i = Int32.ofNat ns[i].length := (h0.i (by unfold wrA; omega)).trans (hs.2 i hil).1
        rw [dm238_14, if_pos b8, j8, hL, if_pos ((nle_iff (by omega) (by omega)).mpr (by omega))]
        split
        · exact h45 s1
        · exact (w235 _ s1).b fun s2 c2 => Wt.t c2 (h45 s2)
      | succ m ih =>
        intro j n x2 s1 h0 h1 h2
        obtain ⟨n, rfl⟩ : ∃ q, n = q + 1 := ⟨n - 1, by omega⟩
        have hL : sI s1 123 i = Int32.ofNat ns[i].length := (h0.i (by unfold wrA; omega)).trans (hs.2 i hil).1
        have h35 : ∀ x4 s2, ch wrA s s2 → Wt (dm238_35 (dm238_14 n) (Int32.ofNat i) x2 (Int32.ofNat j) x4 s2) s2 := by
          intro x4 s2 h3
          unfold dm238_35
          refine (w235 _ s2).b fun s3 c3 => Wt.t c3 ?_
          rw [ofNat_succ (by omega)]
          exact ih (j + 1) n x2 s3 (h3.trans c3) (by omega) (by omega)
        rw [dm238_14, if_pos b8, j8, hL, if_neg (fun q => by have := (nle_iff (by omega) (by omega)).mp q; omega), iLin (by omega) (by omega), if_pos (aB_of (n := 256) (by omega) (by omega))]
        split
        · exact (w235 _ s1).b fun s2 c2 => Wt.t c2 (h35 _ s2 (h0.trans c2))
        · exact h35 _ s1 h0
    rw [e]
    unfold dm238_12
    simp only [bu_some]
    split
    · exact loop ns[i].length 0 5000 _ s (ch.refl _ s) (by omega) (by omega)
    · exact (w235 _ s).b fun s1 c1 => Wt.t c1 (loop ns[i].length 0 5000 _ s1 c1 (by omega) (by omega))
  · rw [if_neg c]
    exact Wt.s (ch.refl _ s)
