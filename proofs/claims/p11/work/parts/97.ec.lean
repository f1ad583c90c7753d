/-! the reader of FormulaTrees: cells, operators, brackets -/
section KK
variable {s0 s : aS} {b i z9 : Nat} {t : List Int32} {ns : List (List Int32)}
def K9 (s : aS) (t : List Int32) (j : Nat) (s' : aS) : Prop := ch (fun a _ => a = 109) s s' ∧ ∃ e, sI s' 109 0 = Int32.ofNat e ∧ j ≤ e ∧ e ≤ t.length
set_option maxRecDepth 100000 in
theorem K9.kw {s' : aS} {j : Nat} (h : KW s0 s b i z9) (hb : b = 102 ∨ 149 ≤ b) (g : ch (fun a _ => a = 109) s s') : KW s0 s' b i z9 := h.f hb (g.mono fun a k z => by unfold AF; omega)
set_option maxRecDepth 100000 in
theorem k90 (h0 : KS s0 b t ns) : ∀ (m q n e : Nat) (s : aS), KW s0 s b i z9 → q + m = 3 → m < n → sI s 109 0 = Int32.ofNat e → e ≤ t.length → ∃ v s', dm90_2 n 79 (Int32.ofNat q) s = some (v, s') ∧ K9 s t e s' := by
  have hl := h0.1.2.1
  have hb := h0.2.1.2.2.1
  have f42 : ∀ x (s : aS), ∃ v, dm90_42 x s = some (v, s) := fun x s => by
    unfold dm90_42
    split <;> exact ⟨_, rfl⟩
  intro m
  induction m with
  | zero =>
    intro q n e s h h1 h2 h3 h4
    obtain ⟨n, rfl⟩ : ∃ q, n = q + 1 := ⟨n - 1, by omega⟩
    have : q = 3 := by omega
    subst this
    rw [dm90_2, if_pos (by decide)]
    obtain ⟨v, e1⟩ := f42 (Int32.ofNat 3) s
    exact ⟨v, s, e1, ch.refl _ s, e, h3, Nat.le_refl _, h4⟩
  | succ m ih =>
    intro q n e s h h1 h2 h3 h4
    obtain ⟨n, rfl⟩ : ∃ q, n = q + 1 := ⟨n - 1, by omega⟩
    rw [dm90_2, if_neg (fun z => by have := (nle_iff (a := 3) (by omega) (by omega)).mp z; omega), h3, kch h0 h (by omega)]
    simp only [bu_some, d45, d35]
    by_cases c : isL (t.getD e (-1))
    · rw [if_neg (fun z => b01_ne.mp z c)]
      have he := kin isLm c
      split
      · simp only [nx_eq]
        have e1 : sI (wI s 109 2 (((((sI s 109 2) * 26) + gr (t.getD e (-1))) - 65) + 1)) 109 0 = Int32.ofNat e := by rw [sI_wI, if_neg (by omega)]; exact h3
        rw [e1, ofNat_succ (n := e) (by omega), ofNat_succ (n := q) (by omega)]
        have cc : ch (fun a _ => a = 109) s (wI (wI s 109 2 (((((sI s 109 2) * 26) + gr (t.getD e (-1))) - 65) + 1)) 109 0 (Int32.ofNat (e + 1))) := ((ch.refl (fun a _ => a = 109) s).wI rfl).wI rfl
        obtain ⟨v, s', g1, g2, e', g3, g4, g5⟩ := ih (q + 1) n (e + 1) _ (K9.kw (j := 0) h hb cc) (by omega) (by omega) (by rw [sI_wI, if_pos ⟨rfl, rfl⟩]) (by omega)
        exact ⟨v, s', g1, cc.trans g2, e', g3, by omega, g5⟩
      · exact ⟨0, s, rfl, ch.refl _ s, e, h3, Nat.le_refl _, h4⟩
    · rw [if_pos (b01_ne.mpr c)]
      obtain ⟨v, e1⟩ := f42 (Int32.ofNat q) s
      exact ⟨v, s, e1, ch.refl _ s, e, h3, Nat.le_refl _, h4⟩
set_option maxRecDepth 100000 in
theorem k91 (h0 : KS s0 b t ns) : ∀ (m q n e : Nat) (s : aS), KW s0 s b i z9 → q + m = 7 → m < n → sI s 109 0 = Int32.ofNat e → e ≤ t.length → ∃ v s', dm91_2 n 79 (Int32.ofNat q) s = some (v, s') ∧ K9 s t e s' := by
  have hl := h0.1.2.1
  have hb := h0.2.1.2.2.1
  have f42 : ∀ x (s : aS), ∃ v, dm91_42 x s = some (v, s) := fun x s => by
    unfold dm91_42
    split <;> exact ⟨_, rfl⟩
  intro m
  induction m with
  | zero =>
    intro q n e s h h1 h2 h3 h4
    obtain ⟨n, rfl⟩ : ∃ q, n = q + 1 := ⟨n - 1, by omega⟩
    have : q = 7 := by omega
    subst this
    rw [dm91_2, if_pos (by decide)]
    obtain ⟨v, e1⟩ := f42 (Int32.ofNat 7) s
    exact ⟨v, s, e1, ch.refl _ s, e, h3, Nat.le_refl _, h4⟩
  | succ m ih =>
    intro q n e s h h1 h2 h3 h4
    obtain ⟨n, rfl⟩ : ∃ q, n = q + 1 := ⟨n - 1, by omega⟩
    rw [dm91_2, if_neg (fun z => by have := (nle_iff (a := 7) (by omega) (by omega)).mp z; omega), h3, kch h0 h (by omega)]
    simp only [bu_some, d47]
    by_cases c : isD (t.getD e (-1))
    · rw [if_neg (fun z => b01_ne.mp z c)]
      have he := kin isDm c
      split
      · exact ⟨0, s, rfl, ch.refl _ s, e, h3, Nat.le_refl _, h4⟩
      · split
        · simp only [nx_eq]
          have e1 : sI (wI s 109 1 ((((sI s 109 1) * 10) + t.getD e (-1)) - 48)) 109 0 = Int32.ofNat e := by rw [sI_wI, if_neg (by omega)]; exact h3
          rw [e1, ofNat_succ (n := e) (by omega), ofNat_succ (n := q) (by omega)]
          have cc : ch (fun a _ => a = 109) s (wI (wI s 109 1 ((((sI s 109 1) * 10) + t.getD e (-1)) - 48)) 109 0 (Int32.ofNat (e + 1))) := ((ch.refl (fun a _ => a = 109) s).wI rfl).wI rfl
          obtain ⟨v, s', g1, g2, e', g3, g4, g5⟩ := ih (q + 1) n (e + 1) _ (K9.kw (j := 0) h hb cc) (by omega) (by omega) (by rw [sI_wI, if_pos ⟨rfl, rfl⟩]) (by omega)
          exact ⟨v, s', g1, cc.trans g2, e', g3, by omega, g5⟩
        · exact ⟨0, s, rfl, ch.refl _ s, e, h3, Nat.le_refl _, h4⟩
    · rw [if_pos (b01_ne.mpr c)]
      obtain ⟨v, e1⟩ := f42 (Int32.ofNat q) s
      exact ⟨v, s, e1, ch.refl _ s, e, h3, Nat.le_refl _, h4⟩
set_option maxRecDepth 100000 in
theorem k92 (x : Int32) : ∃ v, dm92 x = some v := by
  unfold dm92
  rw [d46]
  simp only [bu_some]
  repeat' split
  all_goals exact ⟨_, rfl⟩
set_option maxRecDepth 100000 in
/-- a cell read from place j on -/
theorem k89 {j : Nat} (h0 : KS s0 b t ns) (h : KW s0 s b i z9) (hj : j ≤ t.length) : ∃ v s', dm89 79 (Int32.ofNat j) s = some (v, s') ∧ K9 s t j s' := by
  have hl := h0.1.2.1
  have hb := h0.2.1.2.2.1
  have f54 : ∀ (e : Nat) (s : aS), KW s0 s b i z9 → sI s 109 0 = Int32.ofNat e → e ≤ t.length → ∃ v s', dm89_54 79 s = some (v, s') ∧ K9 s t e s' := by
    intro e s h h3 h4
    obtain ⟨v, s1, g1, g2, e', g3, g4, g5⟩ := k91 h0 7 0 5000 e s h (by omega) (by omega) h3 h4
    have g1 : dm91 79 s = some (v, s1) := g1
    unfold dm89_54
    rw [g1]
    simp only [bv_some]
    obtain ⟨w, q⟩ := k92 (t.getD e' (-1))
    split
    · exact ⟨0, s1, rfl, g2, e', g3, g4, g5⟩
    · rw [g3, kch h0 (K9.kw (j := 0) h hb g2) (by omega)]
      simp only [bu_some]
      rw [q]
      simp only [bu_some]
      split
      · exact ⟨0, s1, rfl, g2, e', g3, g4, g5⟩
      · exact ⟨1, s1, rfl, g2, e', g3, g4, g5⟩
  have f30 : ∀ (e : Nat) (s : aS), KW s0 s b i z9 → sI s 109 0 = Int32.ofNat e → e ≤ t.length → ∃ v s', dm89_30 79 s = some (v, s') ∧ K9 s t e s' := by
    intro e s h h3 h4
    obtain ⟨v, s1, g1, g2, e', g3, g4, g5⟩ := k90 h0 3 0 5000 e s h (by omega) (by omega) h3 h4
    have g1 : dm90 79 s = some (v, s1) := g1
    have h' := K9.kw (j := 0) h hb g2
    unfold dm89_30
    rw [g1]
    simp only [bv_some]
    split
    · exact ⟨0, s1, rfl, g2, e', g3, g4, g5⟩
    · rw [g3, kch h0 h' (by omega)]
      simp only [bu_some]
      split
      · rename_i c
        have he := kin (p := fun x => x = 36) (by decide) c
        simp only [nx_eq]
        have e1 : sI (wI s1 109 3 ((sI s1 109 3) + 1)) 109 0 = Int32.ofNat e' := by rw [sI_wI, if_neg (by omega)]; exact g3
        rw [e1, ofNat_succ (n := e') (by omega)]
        have cc : ch (fun a _ => a = 109) s1 (wI (wI s1 109 3 ((sI s1 109 3) + 1)) 109 0 (Int32.ofNat (e' + 1))) := ((ch.refl (fun a _ => a = 109) s1).wI rfl).wI rfl
        obtain ⟨v2, s2, y1, y2, e2, y3, y4, y5⟩ := f54 (e' + 1) _ (K9.kw (j := 0) h' hb cc) (by rw [sI_wI, if_pos ⟨rfl, rfl⟩]) (by omega)
        exact ⟨v2, s2, y1, (g2.trans cc).trans y2, e2, y3, by omega, y5⟩
      · obtain ⟨v2, s2, y1, y2, e2, y3, y4, y5⟩ := f54 e' s1 h' g3 g5
        exact ⟨v2, s2, y1, g2.trans y2, e2, y3, by omega, y5⟩
  unfold dm89
  simp only [nx_eq]
  have c0 : ch (fun a _ => a = 109) s (wI (wI (wI (wI s 109 0 (Int32.ofNat j)) 109 1 0) 109 2 0) 109 3 0) := ((((ch.refl (fun a _ => a = 109) s).wI rfl).wI rfl).wI rfl).wI rfl
  have e0 : sI (wI (wI (wI (wI s 109 0 (Int32.ofNat j)) 109 1 0) 109 2 0) 109 3 0) 109 0 = Int32.ofNat j := by
    rw [sI_wI, if_neg (by omega), sI_wI, if_neg (by omega), sI_wI, if_neg (by omega), sI_wI, if_pos ⟨rfl, rfl⟩]
  have hk := K9.kw (j := 0) h hb c0
  rw [e0, kch h0 hk (by omega)]
  simp only [bu_some]
  split
  · rename_i c
    have he := kin (p := fun x => x = 36) (by decide) c
    generalize wI (wI (wI (wI s 109 0 (Int32.ofNat j)) 109 1 0) 109 2 0) 109 3 0 = s1 at c0 e0 hk ⊢
    have e1 : sI (wI s1 109 3 ((sI s1 109 3) + 2)) 109 0 = Int32.ofNat j := by rw [sI_wI, if_neg (by omega)]; exact e0
    rw [e1, ofNat_succ (n := j) (by omega)]
    have cc : ch (fun a _ => a = 109) s1 (wI (wI s1 109 3 ((sI s1 109 3) + 2)) 109 0 (Int32.ofNat (j + 1))) := ((ch.refl (fun a _ => a = 109) s1).wI rfl).wI rfl
    obtain ⟨v2, s2, y1, y2, e2, y3, y4, y5⟩ := f30 (j + 1) _ (K9.kw (j := 0) hk hb cc) (by rw [sI_wI, if_pos ⟨rfl, rfl⟩]) (by omega)
    exact ⟨v2, s2, y1, (c0.trans cc).trans y2, e2, y3, by omega, y5⟩
  · obtain ⟨v2, s2, y1, y2, e2, y3, y4, y5⟩ := f30 j _ hk e0 hj
    exact ⟨v2, s2, y1, c0.trans y2, e2, y3, y4, y5⟩
set_option maxRecDepth 100000 in
theorem k81 (hb : b = 102 ∨ 149 ≤ b) (h : KW s0 s b i z9) (x : Int32) : ∃ s', dm81 x s = some s' ∧ KW s0 s' b i z9 ∧ ch (fun a k => a = 106 ∧ 8 ≤ k) s s' := by
  have cc : ch (fun a k => a = 106 ∧ 8 ≤ k) s (wI (wI s 106 10 x) 106 9 4) := ((ch.refl (fun a k => a = 106 ∧ 8 ≤ k) s).wI ⟨rfl, by omega⟩).wI ⟨rfl, by omega⟩
  exact ⟨_, rfl, h.f hb (cc.mono fun a k z => by unfold AF; omega), cc⟩
set_option maxRecDepth 100000 in
theorem KW.fld {k : Nat} {v : Int32} (h : KW s0 s b i z9) (hb : b = 102 ∨ 149 ≤ b) (hk : 8 ≤ k) : KW s0 (wI s 106 k v) b i z9 := h.f hb ((ch.refl _ s).wI (by unfold AF; omega))
set_option maxRecDepth 100000 in
theorem KW.adv {j : Nat} (h : KW s0 s b i z9) (hb : b = 102 ∨ 149 ≤ b) (hi : i < 100000) (hj : j < 1000) : KW s0 (wI s 106 7 ((sI s 106 7) + Int32.ofNat j)) b (i + j) z9 := by
  rw [h.2.1, iSum (by omega) (by omega)]
  exact h.at hb
set_option maxRecDepth 100000 in
/-- percent -/
theorem k69 (h0 : KS s0 b t ns) (h : KW s0 s b i i) (hi : i < t.length) : KO s0 b i t.length (dm69 s) := by
  have hb := h0.2.1.2.2.1
  have hl := h0.1.2.1
  obtain ⟨v, s1, a1, a2, a3⟩ := k70 h0 h (sI s 106 7)
  unfold dm69
  rw [a1]
  simp only [bv_some]
  split
  · exact KO.s a2 (Nat.le_refl _) (by omega)
  · rw [(ktr h0 a2).1, if_pos (ktr (β := aS) (x := none) (f := fun _ => none) h0 a2).2]
    obtain ⟨s2, c1, c2, c3⟩ := k72 a2 hb (sI s1 106 10) 9 1
    rw [c1]
    simp only [bu_some, nx_eq]
    have h3 := KW.fld (k := 9) (v := 4) c2 hb (by omega)
    exact KO.s ((KW.adv (j := 1) h3 hb (by omega) (by omega)).up hb (by omega)) (by omega) (by omega)
set_option maxRecDepth 100000 in
theorem k77 (h0 : KS s0 b t ns) (h : KW s0 s b i i) (hi : i < t.length) : KO s0 b i t.length (dm77 s) := by
  have hb := h0.2.1.2.2.1
  have hl := h0.1.2.1
  obtain ⟨v1, e1⟩ := k78 h
  obtain ⟨v2, e2⟩ := k73 h
  have f16 : ∀ (s : aS), KW s0 s b i i → KO s0 b i t.length (dm77_16 v1 s) := by
    intro s h
    obtain ⟨v3, e3⟩ := k79 h
    unfold dm77_16
    rw [e3]
    simp only [bu_some]
    obtain ⟨s1, a1, a2⟩ := k65 hb h v3
    rw [a1]
    simp only [bu_some]
    obtain ⟨s2, c1, c2⟩ := k80 hb a2
    rw [c1]
    simp only [bu_some]
    obtain ⟨s3, d1, d2, -⟩ := k81 hb c2 v1
    rw [d1]
    simp only [bu_some, nx_eq]
    exact KO.s ((KW.adv (j := 1) d2 hb (by omega) (by omega)).up hb (by omega)) (by omega) (by omega)
  unfold dm77
  rw [e1]
  simp only [bu_some]
  rw [e2]
  simp only [bu_some]
  split
  · exact f16 s h
  · obtain ⟨v3, e3⟩ := k74 h
    rw [(ktr h0 h).1, if_pos (ktr (β := aS) (x := none) (f := fun _ => none) h0 h).2, e3]
    simp only [bu_some]
    obtain ⟨s1, a1, a2, -⟩ := k60 h hb v1 v3 1 (by omega)
    have a1 : dm60 b v1 1 v3 s = some s1 := a1
    rw [a1]
    simp only [bu_some]
    exact f16 s1 a2
set_option maxRecDepth 100000 in
theorem k75 (h0 : KS s0 b t ns) (h : KW s0 s b i i) (hi : i < t.length) (x : Int32) : KO s0 b i t.length (dm75 x s) := by
  have hb := h0.2.1.2.2.1
  have hl := h0.1.2.1
  have f14 : KO s0 b i t.length (dm75_14 x s) := by
    obtain ⟨s1, a1, a2⟩ := k76 hb h
    unfold dm75_14
    rw [a1]
    simp only [bu_some]
    split
    · obtain ⟨v, e⟩ := k79 a2
      rw [e]
      simp only [bu_some]
      obtain ⟨s2, c1, c2⟩ := k65 hb a2 v
      rw [c1]
      simp only [bu_some, nx_eq]
      have h3 := KW.fld (k := 9) (v := 0) c2 hb (by omega)
      exact KO.s ((KW.adv (j := 1) h3 hb (by omega) (by omega)).up hb (by omega)) (by omega) (by omega)
    · exact (k77 h0 a2 hi).b fun s2 j c1 c2 c3 => KO.s c1 c2 c3
  unfold dm75
  split
  · obtain ⟨v, e⟩ := k74 h
    rw [e]
    simp only [bu_some]
    split
    · exact f14
    · rw [nx_eq]
      exact KO.s (KW.fld h hb (by omega)) (Nat.le_refl _) (by omega)
  · exact f14
set_option maxRecDepth 100000 in
theorem k84 {d c : Int32} (h0 : KS s0 b t ns) (h : KW s0 s b i i) (hi : i < t.length) (x : Int32) (hx : (x = 18 ∨ x = 21 ∨ x = 22) → i + 1 < t.length) : KO s0 b i t.length (dm84 x s) := by
  have hb := h0.2.1.2.2.1
  have hl := h0.1.2.1
  unfold dm84
  split
  · rw [nx_eq]
    exact KO.s (KW.fld h hb (by omega)) (Nat.le_refl _) (by omega)
  · obtain ⟨v, s1, a1, a2, a3⟩ := k70 h0 h (sI s 106 7)
    rw [a1]
    simp only [bv_some]
    split
    · exact KO.s a2 (Nat.le_refl _) (by omega)
    · have e85 : ∃ r, dm85 x = some r := by
        unfold dm85
        repeat' split
        all_goals exact ⟨_, rfl⟩
      obtain ⟨r, er⟩ := e85
      obtain ⟨v2, e2⟩ := k79 a2
      rw [er]
      simp only [bu_some]
      rw [e2]
      simp only [bu_some]
      obtain ⟨v3, s2, c1, c2⟩ := k86 hb a2 v2 r (sI s1 106 10)
      rw [c1]
      simp only [bv_some]
      rw [(ktr h0 c2).1, if_pos (ktr (β := aS) (x := none) (f := fun _ => none) h0 c2).2]
      obtain ⟨s3, d1, d2, -⟩ := k72 c2 hb v3 x 2
      rw [d1]
      simp only [bu_some]
      obtain ⟨s4, f1, f2⟩ := k87 hb d2 r v3
      rw [f1]
      simp only [bu_some, nx_eq]
      have h5 := KW.fld (k := 9) (v := 1) f2 hb (by omega)
      unfold dm84_49 dm84_52 dm84_61
      have two : i + 1 < t.length → KO s0 b i t.length (if (1 : Int32) = 0 then nx (wI (wI s4 106 9 1) 106 7 ((sI (wI s4 106 9 1) 106 7) + 1)) fun s1 => some s1 else nx (wI (wI s4 106 9 1) 106 7 ((sI (wI s4 106 9 1) 106 7) + 2)) fun s1 => some s1) := by
        intro hlt
        rw [if_neg (by decide), nx_eq]
        exact KO.s ((KW.adv (j := 2) h5 hb (by omega) (by omega)).up hb (by omega)) (by omega) (by omega)
      split
      · rename_i q
        exact two (hx (Or.inl q))
      · split
        · rename_i q
          exact two (hx (Or.inr (Or.inl q)))
        · split
          · rename_i q
            exact two (hx (Or.inr (Or.inr q)))
          · rw [if_pos rfl, nx_eq]
            exact KO.s ((KW.adv (j := 1) h5 hb (by omega) (by omega)).up hb (by omega)) (by omega) (by omega)
end KK
