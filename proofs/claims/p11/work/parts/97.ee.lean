/-! the reader of FormulaTrees: tokens -/
section KK
variable {s0 s : aS} {b i z9 : Nat} {t : List Int32} {ns : List (List Int32)}
set_option maxRecDepth 100000 in
theorem k121 {j mx : Nat} (h0 : KS s0 b t ns) (h : KW s0 s b j z9) (hj : j ≤ t.length) (hmx : mx ≤ 256) : ∃ v s' e, dm121 (Int32.ofNat mx) s = some (v, s') ∧ KW s0 s' b e z9 ∧ j ≤ e ∧ e ≤ t.length := by
  have hb := h0.2.1.2.2.1
  have hl := h0.1.2.1
  have loop : ∀ (m q n j : Nat) (s : aS), KW s0 s b j z9 → q + m = mx → m < n → j ≤ t.length → ∃ v s' e, dm121_2 n (Int32.ofNat mx) (Int32.ofNat q) s = some (v, s') ∧ KW s0 s' b e z9 ∧ j ≤ e ∧ e ≤ t.length := by
    intro m
    induction m with
    | zero =>
      intro q n j s h h1 h2 h3
      obtain ⟨n, rfl⟩ : ∃ q, n = q + 1 := ⟨n - 1, by omega⟩
      rw [dm121_2, if_pos ((nle_iff (by omega) (by omega)).mpr (by omega))]
      exact ⟨_, s, j, rfl, h, Nat.le_refl _, h3⟩
    | succ m ih =>
      intro q n j s h h1 h2 h3
      obtain ⟨n, rfl⟩ : ∃ q, n = q + 1 := ⟨n - 1, by omega⟩
      rw [dm121_2, if_neg (fun z => by have := (nle_iff (by omega) (by omega)).mp z; omega), h.2.1, kch h0 h (by omega)]
      simp only [bu_some, d47, nx_eq]
      by_cases c : isD (t.getD j (-1))
      · rw [if_neg (fun z => b01_ne.mp z c)]
        have he := kin isDm c
        rw [ofNat_succ (n := j) (by omega), ofNat_succ (n := q) (by omega)]
        obtain ⟨v, s', e, g1, g2, g3, g4⟩ := ih (q + 1) n (j + 1) _ (h.at hb) (by omega) (by omega) (by omega)
        exact ⟨v, s', e, g1, g2, by omega, g4⟩
      · rw [if_pos (b01_ne.mpr c)]
        exact ⟨_, s, j, rfl, h, Nat.le_refl _, h3⟩
  exact loop mx 0 5000 j s h (by omega) (by omega) hj
set_option maxRecDepth 100000 in
theorem k120 (h0 : KS s0 b t ns) (h : KW s0 s b i i) (hi : i < t.length) : KO s0 b i t.length (dm120 s) := by
  have hb := h0.2.1.2.2.1
  have hl := h0.1.2.1
  have f78 : ∀ (x3 : Int32) (j : Nat) (s : aS), KW s0 s b j i → i ≤ j → j ≤ t.length → KO s0 b i t.length (dm120_78 (Int32.ofNat i) x3 s) := by
    intro x3 j s h h1 h2
    unfold dm120_78
    split
    · rw [nx_eq]
      exact KO.s ((KW.fld h hb (by omega)).up hb h1) h1 h2
    · rw [h.2.1]
      obtain ⟨s1, hd, a1, a2, a3, a4⟩ := k122 h0 h h1 h2
      rw [a1]
      simp only [bu_some]
      exact (k106 h0 a2 a3 (by omega) h2 0 (Int32.ofNat i)).b fun s2 j c1 c2 c3 => KO.s c1 c2 c3
  have f68 : ∀ (w j : Nat) (s : aS), KW s0 s b j i → i ≤ j → j + w ≤ t.length → KO s0 b i t.length (dm120_68 (Int32.ofNat i) (sI s 106 7) (Int32.ofNat w) s) := by
    intro w j s h h1 h2
    unfold dm120_68 dm120_77
    rw [h.2.1, iSum (by omega) (by omega), nx_eq]
    obtain ⟨v, s1, e, a1, a2, a3, a4⟩ := k121 (mx := 3) h0 (h.at hb) h2 (by omega)
    have a1 : dm121 3 (wI s 106 7 (Int32.ofNat (j + w))) = some (v, s1) := a1
    rw [a1]
    simp only [bv_some]
    split
    · exact f78 0 e s1 a2 (by omega) a4
    · exact f78 1 e s1 a2 (by omega) a4
  have f31 : ∀ (y : Int32) (j : Nat) (s : aS), KW s0 s b j i → i ≤ j → j ≤ t.length → KO s0 b i t.length (dm120_31 (Int32.ofNat i) y s) := by
    intro y j s h h1 h2
    unfold dm120_31 dm120_65
    split
    · exact f78 y j s h h1 h2
    · rw [h.2.1, kch h0 h (by omega)]
      simp only [bu_some, d35]
      split
      · rename_i c
        have he : j < t.length := by
          by_cases z : j < t.length
          · exact z
          · rw [getD_out (by omega)] at c
            exact absurd c (by decide)
        rw [nx_eq, ofNat_succ (by omega)]
        have h' := h.at (j := j + 1) hb
        rw [h'.2.1, kch h0 h' (by omega)]
        simp only [bu_some]
        split
        · rename_i c2
          have := kin (p := fun x => x = 43) (by decide) c2
          have q := f68 1 (j + 1) _ h' (by omega) (by omega)
          rw [h'.2.1] at q
          exact q
        · split
          · rename_i c2
            have := kin (p := fun x => x = 45) (by decide) c2
            have q := f68 1 (j + 1) _ h' (by omega) (by omega)
            rw [h'.2.1] at q
            exact q
          · have q := f68 0 (j + 1) _ h' (by omega) (by omega)
            rw [h'.2.1] at q
            exact q
      · exact f78 y j s h h1 h2
  have f26 : ∀ (x2 : Int32) (j : Nat) (s : aS), KW s0 s b j i → i ≤ j → j ≤ t.length → KO s0 b i t.length (dm120_26 (Int32.ofNat i) x2 s) := by
    intro x2 j s h h1 h2
    unfold dm120_26
    split
    · exact f31 0 j s h h1 h2
    · exact f31 1 j s h h1 h2
  unfold dm120
  rw [h.2.1]
  obtain ⟨v, s1, e, a1, a2, a3, a4⟩ := k121 (mx := 256) h0 h (by omega) (by omega)
  have a1 : dm121 256 s = some (v, s1) := a1
  rw [a1]
  simp only [bv_some]
  rw [a2.2.1, kch h0 a2 (by omega)]
  simp only [bu_some]
  split
  · rename_i c
    have he := kin (p := fun x => x = 46) (by decide) c
    rw [nx_eq, ofNat_succ (by omega)]
    obtain ⟨v2, s2, e2, c1, c2, c3, c4⟩ := k121 (mx := 256) h0 (a2.at (j := e + 1) hb) (by omega) (by omega)
    have c1 : dm121 256 (wI s1 106 7 (Int32.ofNat (e + 1))) = some (v2, s2) := c1
    rw [c1]
    simp only [bv_some]
    exact f26 _ e2 s2 c2 (by omega) c4
  · exact f26 _ e s1 a2 a3 a4
set_option maxRecDepth 100000 in
/-- what stands in quotes -/
theorem k105 (h0 : KS s0 b t ns) (h : KW s0 s b i i) (hi : i < t.length) (q : Int32) (hq : ¬ q = -1) : ∃ v s' e hd, dm105 q s = some (v, s') ∧ KW s0 s' b e i ∧ HH s' hd ∧ i + hd.length + 1 ≤ e ∧ e ≤ t.length := by
  have hb := h0.2.1.2.2.1
  have hl := h0.1.2.1
  have ho := h0.1.2.2.1
  have loop : ∀ (m j n : Nat) (s : aS) (hd : List Int32) (x2 : Int32), KW s0 s b j i → HH s hd → (x2 = 0 ∨ x2 = 1) → i + hd.length + 1 ≤ j → j ≤ t.length → t.length ≤ j + m → m + 1 < n → ∃ v s' e hd', dm105_11 n q x2 s = some (v, s') ∧ KW s0 s' b e i ∧ HH s' hd' ∧ i + hd'.length + 1 ≤ e ∧ e ≤ t.length := by
    intro m
    induction m with
    | zero =>
      intro j n s hd x2 h hh hx h1 h2 h3 h4
      obtain ⟨n, rfl⟩ : ∃ q, n = q + 1 := ⟨n - 1, by omega⟩
      rw [dm105_11, klen h0 h, h.2.1]
      simp only [bu_some]
      rw [if_pos ((nle_iff (by omega) (by omega)).mpr (by omega)), if_pos hx]
      exact ⟨x2, s, j, hd, rfl, h, hh, h1, h2⟩
    | succ m ih =>
      intro j n s hd x2 h hh hx h1 h2 h3 h4
      obtain ⟨n, rfl⟩ : ∃ q, n = q + 1 := ⟨n - 1, by omega⟩
      rw [dm105_11, klen h0 h, h.2.1]
      simp only [bu_some]
      by_cases c : t.length ≤ j
      · rw [if_pos ((nle_iff (by omega) (by omega)).mpr c), if_pos hx]
        exact ⟨x2, s, j, hd, rfl, h, hh, h1, h2⟩
      · rw [if_neg (fun z => c ((nle_iff (by omega) (by omega)).mp z))]
        have hj : j < t.length := by omega
        rcases hx with rfl | rfl
        · rw [if_pos rfl, kch h0 h (by omega)]
          simp only [bu_some]
          have go : ∀ (s1 : aS) (hd1 : List Int32) (y : Int32) (w : Nat), KW s0 s1 b j i → HH s1 hd1 → (y = 0 ∨ y = 1) → i + hd1.length + 1 ≤ j + w → 1 ≤ w → j + w ≤ t.length → ∃ v s' e hd', dm105_65 (dm105_11 n) q y (sI s1 106 7) (Int32.ofNat w) s1 = some (v, s') ∧ KW s0 s' b e i ∧ HH s' hd' ∧ i + hd'.length + 1 ≤ e ∧ e ≤ t.length := by
            intro s1 hd1 y w k1 k2 k3 k4 k5 k6
            unfold dm105_65
            rw [k1.2.1, iSum (by omega) (by omega), nx_eq]
            have hh1 : HH (wI s1 106 7 (Int32.ofNat (j + w))) hd1 := ⟨k2.1.of ((ch.refl (fun a k => a = 106 ∧ k = 7) s1).wI ⟨rfl, rfl⟩) (by omega) (fun k => by omega), k2.2⟩
            exact ih (j + w) n _ hd1 y (k1.at hb) hh1 k3 k4 k6 (by omega) (by omega)
          have f55 : ∀ (s1 : aS) (hd1 : List Int32) (y x3 : Int32), KW s0 s1 b j i → HH s1 hd1 → (y = 0 ∨ y = 1) → i + hd1.length + 1 ≤ j + 1 → (¬ x3 = 0 → y = 0 → j + 2 ≤ t.length) → ∃ v s' e hd', dm105_55 (dm105_11 n) q y x3 s1 = some (v, s') ∧ KW s0 s' b e i ∧ HH s' hd' ∧ i + hd'.length + 1 ≤ e ∧ e ≤ t.length := by
            intro s1 hd1 y x3 k1 k2 k3 k4 k5
            unfold dm105_55 dm105_64
            split
            · exact go s1 hd1 y 1 k1 k2 k3 k4 (by omega) (by omega)
            · split
              · rename_i c1 c2
                exact go s1 hd1 y 2 k1 k2 k3 (by omega) (by omega) (k5 c1 c2)
              · exact go s1 hd1 y 1 k1 k2 k3 k4 (by omega) (by omega)
          have f44 : ∀ (x3 y : Int32), (y = 0 ∨ y = 1) → (¬ x3 = 0 → y = 0 → j + 2 ≤ t.length) → ∃ v s' e hd', dm105_44 (dm105_11 n) q x3 y s = some (v, s') ∧ KW s0 s' b e i ∧ HH s' hd' ∧ i + hd'.length + 1 ≤ e ∧ e ≤ t.length := by
            intro x3 y k1 k2
            unfold dm105_44
            split
            · rw [h.2.1, kch h0 h (by omega)]
              simp only [bu_some]
              obtain ⟨s1, a1, a2, a3⟩ := kHadd h0 h hh (by omega) (okc ho hj)
              rw [a1]
              simp only [bu_some]
              exact f55 s1 _ y x3 a2 a3 k1 (by rw [List.length_append]; show i + (hd.length + 1) + 1 ≤ j + 1; omega) k2
            · exact f55 s hd y x3 h hh k1 (by omega) k2
          unfold dm105_29 dm105_43
          split
          · rw [if_neg (by decide), h.2.1, ofNat_succ (by omega), kch h0 h (by omega)]
            simp only [bu_some]
            split
            · rename_i c2
              have := kin (p := fun x => x = q) (fun z => hq z.symm) c2
              exact f44 1 0 (Or.inl rfl) (fun _ _ => by omega)
            · exact f44 1 1 (Or.inr rfl) (fun _ z => absurd z (by decide))
          · rw [if_pos rfl]
            exact f44 0 0 (Or.inl rfl) (fun z => absurd rfl z)
        · rw [if_neg (by decide), if_pos (Or.inr rfl)]
          exact ⟨1, s, j, hd, rfl, h, hh, h1, h2⟩
  unfold dm105
  obtain ⟨s1, a1, a2, a3⟩ := kHclr h0 h
  rw [a1]
  simp only [bu_some, nx_eq]
  rw [a2.2.1, ofNat_succ (by omega)]
  have hh1 : HH (wI s1 106 7 (Int32.ofNat (i + 1))) [] := ⟨a3.1.of ((ch.refl (fun a k => a = 106 ∧ k = 7) s1).wI ⟨rfl, rfl⟩) (by omega) (fun k => by omega), a3.2⟩
  exact loop t.length (i + 1) 5000 _ [] 0 (a2.at hb) hh1 (Or.inl rfl) (by simp) (by omega) (by omega) (by omega)
set_option maxRecDepth 100000 in
theorem k104 (h0 : KS s0 b t ns) (h : KW s0 s b i i) (hi : i < t.length) : KO s0 b i t.length (dm104 s) := by
  have hb := h0.2.1.2.2.1
  obtain ⟨v, s1, e, hd, a1, a2, a3, a4, a5⟩ := k105 h0 h hi 34 (by decide)
  unfold dm104
  rw [a1]
  simp only [bv_some]
  split
  · rw [nx_eq]
    exact KO.s ((KW.fld a2 hb (by omega)).up hb (by omega)) (by omega) a5
  · exact (k106 h0 a2 a3 (by omega) a5 1 (sI s 106 7)).b fun s2 j c1 c2 c3 => KO.s c1 c2 c3
set_option maxRecDepth 100000 in
theorem k112 (hb : b = 102 ∨ 149 ≤ b) (h : KW s0 s b i z9) (x y : Int32) : ∃ s', dm112 x y s = some s' ∧ KW s0 s' b i z9 := ⟨_, rfl, KW.fld (KW.fld (KW.fld h hb (by omega)) hb (by omega)) hb (by omega)⟩
set_option maxRecDepth 100000 in
theorem k114 {hd : List Int32} {e : Nat} (h0 : KS s0 b t ns) (h : KW s0 s b e z9) (hh : HH s hd) (hz : z9 ≤ e) (he : e < t.length) (x : Int32) : KO s0 b z9 t.length (dm114 x s) := by
  have hb := h0.2.1.2.2.1
  have hl := h0.1.2.1
  have hs := h0.of h.1
  have e32 := d32 (b := 107) hs.2.2.1 hs.2.2.2.2.1 hs.2.2.2.1 hh.1 (by show hd.length ≤ (sT s 108).2; rw [hs.2.1.2.2.2.2]; exact hh.2.1) (by have := hh.2.1; omega)
  unfold dm114
  rw [e32]
  simp only [bu_some]
  split
  · rw [nx_eq]
    exact KO.s ((KW.fld h hb (by omega)).up hb hz) hz (by omega)
  · rw [nx_eq, h.2.1, ofNat_succ (by omega)]
    obtain ⟨s1, a1, a2⟩ := k112 hb (h.at (j := e + 1) hb) x (fndF hd ns 0)
    rw [a1]
    exact KO.s (a2.up hb (by omega)) (by omega) (by omega)
set_option maxRecDepth 100000 in
theorem k113 (h0 : KS s0 b t ns) (h : KW s0 s b i i) (hi : i < t.length) : KO s0 b i t.length (dm113 s) := by
  have hb := h0.2.1.2.2.1
  have hl := h0.1.2.1
  obtain ⟨v, s1, e, hd, a1, a2, a3, a4, a5⟩ := k105 h0 h hi 39 (by decide)
  have f18 : KO s0 b i t.length (dm113_18 s1) := by
    unfold dm113_18
    rw [nx_eq]
    exact KO.s ((KW.fld a2 hb (by omega)).up hb (by omega)) (by omega) a5
  unfold dm113
  rw [a1]
  simp only [bv_some]
  split
  · exact f18
  · rw [a2.2.1, kch h0 a2 (by omega)]
    simp only [bu_some]
    split
    · rename_i c
      have he := kin (p := fun x => x = 33) (by decide) c
      exact (k114 h0 a2 a3 (by omega) he (sI s 106 7)).b fun s2 j c1 c2 c3 => KO.s c1 c2 c3
    · exact f18
set_option maxRecDepth 100000 in
theorem k115 {e : Nat} (h0 : KS s0 b t ns) (h : KW s0 s b e e) (he : e < t.length) (x y : Int32) : KO s0 b e t.length (dm115 x y s) := by
  have hb := h0.2.1.2.2.1
  have hl := h0.1.2.1
  unfold dm115 dm82 dm116
  simp only [bu_some]
  split
  · obtain ⟨s1, a1, a2⟩ := k117 hb h x y (sI s 110 2)
    rw [a1]
    simp only [bu_some]
    have f25 : ∀ z, KO s0 b e t.length (dm115_25 z s1) := fun z => by
      unfold dm115_25
      simp only [nx_eq]
      have h5 := KW.fld (k := 9) (v := z) a2 hb (by omega)
      exact KO.s ((KW.adv (j := 1) h5 hb (by omega) (by omega)).up hb (by omega)) (by omega) (by omega)
    split
    · exact f25 1
    · exact f25 0
  · rw [nx_eq]
    exact KO.s (KW.fld h hb (by omega)) (Nat.le_refl _) (by omega)
set_option maxRecDepth 100000 in
theorem k118 (h0 : KS s0 b t ns) (h : KW s0 s b i i) (hi : i < t.length) : KO s0 b i t.length (dm118 s) := by
  have hb := h0.2.1.2.2.1
  have hl := h0.1.2.1
  obtain ⟨v2, s2, c1, c2, c3⟩ := k70 h0 h (sI s 106 7)
  unfold dm118 dm94
  rw [c1]
  simp only [bv_some]
  split
  · exact KO.s c2 (by omega) (by omega)
  · rw [(ktr h0 c2).1, if_pos (ktr (β := aS) (x := none) (f := fun _ => none) h0 c2).2]
    simp only [bu_some]
    obtain ⟨s3, d1, d2⟩ := k87 hb c2 6 (sI s2 b 2)
    rw [d1]
    simp only [bu_some]
    rw [(ktr h0 d2).1, if_pos (ktr (β := aS) (x := none) (f := fun _ => none) h0 d2).2]
    rw [(ktr h0 d2).1, if_pos (ktr (β := aS) (x := none) (f := fun _ => none) h0 d2).2]
    obtain ⟨s4, f1, f2, f3⟩ := k72 d2 hb (sI s3 b 2) 10 1
    rw [f1]
    simp only [bu_some, nx_eq]
    have h5 := KW.fld (k := 9) (v := 1) f2 hb (by omega)
    exact KO.s ((KW.adv (j := 1) h5 hb (by omega) (by omega)).up hb (by omega)) (by omega) (by omega)
set_option maxRecDepth 100000 in
theorem k119 (h0 : KS s0 b t ns) (h : KW s0 s b i i) (hi : i < t.length) (x : Int32) : KO s0 b i t.length (dm119 x s) := by
  have hb := h0.2.1.2.2.1
  have hl := h0.1.2.1
  have f17 : KO s0 b i t.length (dm119_17 x s) := by
    obtain ⟨v2, s2, c1, c2, c3⟩ := k70 h0 h (sI s 106 7)
    unfold dm119_17 dm94
    rw [c1]
    simp only [bv_some]
    split
    · exact KO.s c2 (by omega) (by omega)
    · rw [(ktr h0 c2).1, if_pos (ktr (β := aS) (x := none) (f := fun _ => none) h0 c2).2]
      rw [(ktr h0 c2).1, if_pos (ktr (β := aS) (x := none) (f := fun _ => none) h0 c2).2]
      simp only [bu_some]
      obtain ⟨s4, f1, f2, f3⟩ := k72 c2 hb (sI s2 b 2) 8 0
      rw [f1]
      simp only [bu_some]
      exact (k75 h0 f2 hi x).b fun s2 j c1 c2 c3 => KO.s c1 c2 c3
  unfold dm119
  split
  · split
    · exact f17
    · obtain ⟨v, e⟩ := k74 h
      rw [e]
      simp only [bu_some]
      split
      · exact (k77 h0 h hi).b fun s2 j c1 c2 c3 => KO.s c1 c2 c3
      · exact f17
  · rw [nx_eq]
    exact KO.s (KW.fld h hb (by omega)) (Nat.le_refl _) (by omega)
end KK
