/-! move as a whole in FormulaTrees -/
set_option maxRecDepth 100000 in
theorem nT_I {s : aS} {a k : Nat} (h : a < sL s) : sI (nTree s) a k = sI s a k := by
  rw [nTree_I, if_neg (by omega), if_neg (by omega), if_neg (by omega), if_neg (by omega)]
set_option maxRecDepth 100000 in
theorem nT_R {s : aS} {a k : Nat} (h : a < sL s) : sR (nTree s) a k = sR s a k := by
  rw [nTree_R, if_neg (by omega), if_neg (by omega), if_neg (by omega), if_neg (by omega), if_neg (by omega), if_neg (by omega), if_neg (by omega)]
set_option maxRecDepth 100000 in
theorem nT_T {s : aS} {a : Nat} (h : a < sL s) : sT (nTree s) a = sT s a := by
  rw [nTree_T, if_neg (by omega), if_neg (by omega), if_neg (by omega), if_neg (by omega)]
set_option maxRecDepth 100000 in
theorem nT_K {s : aS} {a c : Nat} (h : aK s a c) : aK (nTree s) a c := ⟨by have := h.1; rw [nTree_L]; omega, by rw [nT_T h.1]; exact h.2⟩
set_option maxRecDepth 100000 in
/-- a new tree where there was none -/
theorem nT_all {tt : Nat} {cc : Nat → Nat → Int32} {s : aS} {fs : Nat → Option Fm} {y : Nat} (hl : Ly tt cc s) (h : CF s fs) (ht : TD s) (hu : CL s fs) (hy : y < 8) (hn : sR s 100 y = .null) : Ly tt cc (wR (nTree s) 100 y (.ref (sL s))) ∧ CF (wR (nTree s) 100 y (.ref (sL s))) fs ∧ TD (wR (nTree s) 100 y (.ref (sL s))) ∧ CL (wR (nTree s) 100 y (.ref (sL s))) fs ∧ aK (wR (nTree s) 100 y (.ref (sL s))) (sL s) 3 := by
  obtain ⟨l1, -, l3⟩ := lay_tree hl.gL hl
  have hL : 149 ≤ sL s := hl.1
  have hT : sT (nTree s) 100 = (113, 8) := l1.T (a := 100) (p := (113, 8)) 22 rfl rfl
  have eR : ∀ f, f ≠ y → sR (wR (nTree s) 100 y (.ref (sL s))) 100 f = sR s 100 f := fun f hf => by
    rw [sR_wR, if_neg (by omega), nT_R (by omega)]
  have eY : sR (wR (nTree s) 100 y (.ref (sL s))) 100 y = .ref (sL s) := by rw [sR_wR, if_pos ⟨rfl, rfl⟩]
  have eK : ∀ b, aK s b 3 → aK (wR (nTree s) 100 y (.ref (sL s))) b 3 := fun b hb => nT_K hb
  have eI : ∀ a k, a < sL s → sI (wR (nTree s) 100 y (.ref (sL s))) a k = sI s a k := fun a k ha => nT_I ha
  have nY : fs y = none := by
    cases hq : fs y with
    | none => rfl
    | some v =>
      obtain ⟨h0, L⟩ := v
      obtain ⟨-, -, b, b1, -⟩ := (h y hy).2 h0 L hq
      rw [hn] at b1
      cases b1
  refine ⟨l1.wRd hT (by decide) (lay_noR _), fun f hf => ?_, ⟨fun f hf => ?_, fun f g b hf hg q1 q2 => ?_, ?_⟩, fun f hf hs b hb => ?_, l3⟩
  · obtain ⟨a1, a2⟩ := h f hf
    refine ⟨fun q => (eI 101 f (by omega)).trans (a1 q), fun h9 L9 q => ?_⟩
    obtain ⟨z1, z2, b, z3, z4, z5⟩ := a2 h9 L9 q
    have hfy : f ≠ y := by
      rintro rfl
      rw [nY] at q
      cases q
    have hb := (hl.tr z4).2.2.2.1
    exact ⟨(eI 101 f (by omega)).trans z1, z2, b, (eR f hfy).trans z3, eK b z4, (eI _ _ (by omega)).trans z5.1, z5.2.1, fun i hi w hw => (eI _ _ (by omega)).trans (z5.2.2 i hi w hw)⟩
  · by_cases e : f = y
    · subst e
      exact Or.inr ⟨_, eY, l3⟩
    · rw [eR f e]
      rcases ht.1 f hf with z | ⟨b, z1, z2⟩
      · exact Or.inl z
      · exact Or.inr ⟨b, z1, eK b z2⟩
  · have old : ∀ f, f < 8 → f ≠ y → sR s 100 f ≠ .ref (sL s) := fun f hf hfy q => by
      rcases ht.1 f hf with z | ⟨b, z1, z2⟩
      · rw [z] at q
        cases q
      · rw [z1] at q
        cases q
        exact absurd z2.1 (Nat.lt_irrefl _)
    by_cases e1 : f = y
    · by_cases e2 : g = y
      · rw [e1, e2]
      · subst e1
        rw [eY] at q1
        cases q1
        rw [eR g e2] at q2
        exact absurd q2 (old g hg e2)
    · rw [eR f e1] at q1
      by_cases e2 : g = y
      · subst e2
        rw [eY] at q2
        cases q2
        exact absurd q1 (old f hf e1)
      · rw [eR g e2] at q2
        exact ht.2.1 f g b hf hg q1 q2
  · obtain ⟨b, b1, b2, b3⟩ := ht.2.2
    refine ⟨b, ?_, eK b b2, fun f hf q => ?_⟩
    · rw [sR_wR, if_neg (by omega), nT_R (by omega)]
      exact b1
    · by_cases e : f = y
      · subst e
        rw [eY] at q
        cases q
        exact absurd b2.1 (Nat.lt_irrefl _)
      · rw [eR f e] at q
        exact b3 f hf q
  · have hfy : f ≠ y := by
      rintro rfl
      exact hs nY
    rw [eR f hfy] at hb
    obtain ⟨u, u1⟩ := hu f hf hs b hb
    rcases ht.1 f hf with z | ⟨b8, z1, z2⟩
    · rw [z] at hb
      cases hb
    · rw [hb] at z1
      cases z1
      have h3 := (hl.tr z2).2.2.2.1
      exact ⟨u, ⟨(eI _ _ (by omega)).trans u1.1.1, fun j hj => (eI _ _ (by omega)).trans (u1.1.2 j hj)⟩, u1.2⟩
set_option maxRecDepth 100000 in
theorem d125 {tt : Nat} {cc : Nat → Nat → Int32} {s : aS} {ns : List (List Int32)} {fs : Nat → Option Fm} (hl : Ly tt cc s) (hs : SC s ns) (hn : nsOk ns) (h : CF s fs) (ht : TD s) (hu : CL s fs) (x1 x2 x3 x4 x5 : Int32) :
    (¬ mvV ns fs x1 x4 x5 ∧ dm125 x1 x2 x3 x4 x5 s = some (.inr 2, nw s 82 0)) ∨
    (mvV ns fs x1 x4 x5 ∧ ¬ (wayP x2 ∧ wayP x3) ∧ dm125 x1 x2 x3 x4 x5 s = some (.inr 0, nw s 80 0)) ∨
    (mvV ns fs x1 x4 x5 ∧ (wayP x2 ∧ wayP x3) ∧ ∃ h0 L s', fAt fs x1 = some (h0, L) ∧ dm125 x1 x2 x3 x4 x5 s = some (.inl none, s') ∧ CF s' (fsMove x1.toInt.toNat x5.toInt.toNat x2 x3 x4 (fun r c => onRf (mvC r c)) L fs) ∧ TD s' ∧ CL s' (fsMove x1.toInt.toNat x5.toInt.toNat x2 x3 x4 (fun r c => onRf (mvC r c)) L fs)) := by
  have h8 := hn.1
  have e55 : dm55 x5 = some (b01 (0 ≤ x5.toInt ∧ x5.toInt < 8)) := by
    unfold dm55
    have l1 : x5 < 0 ↔ x5.toInt < 0 := iLt
    have l2 : 8 ≤ x5 ↔ 8 ≤ x5.toInt := iLe
    by_cases c1 : x5 < 0
    · rw [if_pos c1, b01_f]
      have := l1.mp c1
      omega
    · rw [if_neg c1]
      have c1 : ¬ x5.toInt < 0 := fun q => c1 (l1.mpr q)
      by_cases c2 : 8 ≤ x5
      · rw [if_pos c2, b01_f]
        have := l2.mp c2
        omega
      · rw [if_neg c2, b01_t]
        have c2 : ¬ 8 ≤ x5.toInt := fun q => c2 (l2.mpr q)
        omega
  unfold dm125 dm125_14 dm125_25
  rcases d54 h x1 with ⟨e1, e2⟩ | ⟨h0, L, b, e1, hx, e2, e3, e4, e5, e6⟩
  · left
    rw [e2, e55]
    simp only [bu_some, vN_null, ite_self]
    exact ⟨fun q => q.2.1 e1, trivial⟩
  · rw [e2, e55, d40 hs h8, d126, d126]
    simp only [bu_some, vN_ref]
    rw [if_pos e3]
    by_cases c1 : 0 ≤ x5.toInt ∧ x5.toInt < 8
    · rw [b01_t c1, if_neg (by decide)]
      by_cases c2 : 0 ≤ x4.toInt ∧ x4.toInt < ns.length
      · rw [b01_t c2, if_neg (by decide)]
        have hV : mvV ns fs x1 x4 x5 := ⟨c1, (by rw [e1]; exact Option.some_ne_none _), c2⟩
        right
        by_cases c3 : wayP x2
        · rw [b01_t c3, if_neg (by decide)]
          by_cases c4 : wayP x3
          · right
            rw [b01_t c4, if_neg (by decide)]
            have hb5 : aB x5 8 := by rw [aB_iff]; omega
            have hL : fs x1.toInt.toNat = some (h0, L) := by
              unfold fAt at e1
              rw [if_pos hx] at e1
              exact e1
            have hho : x4 ≠ -1 := by
              intro q
              rw [iEq] at q
              have q : x4.toInt = -1 := q
              omega
            have ex1 := ofNat_of (x := x1) hx.1
            have ex5 := ofNat_of (x := x5) c1.1
            refine ⟨hV, ⟨c3, c4⟩, h0, L, ?_⟩
            simp only [if_pos hb5]
            rcases ht.1 x5.toInt.toNat (by omega) with z | ⟨c, z1, z2⟩
            · have z : sR s 100 (jN x5) = .null := z
              rw [z]
              simp only [vN_null, nx_eq]
              obtain ⟨n1, n2, n3, n4, n5⟩ := nT_all (y := x5.toInt.toNat) hl h ht hu (by omega) z
              have hbl := (hl.tr e3).2.2.2.1
              have hne : x1.toInt.toNat ≠ x5.toInt.toNat := by
                intro q
                rw [q] at e5
                have z : sR s 100 x5.toInt.toNat = .null := z
                rw [z] at e5
                cases e5
              obtain ⟨s', k1, k2, k3, k4, -⟩ := d125m (x := x1.toInt.toNat) (y := x5.toInt.toNat) (b := b) (c := sL s) (r := x2) (q := x3) (ho := x4) n1 n2 n3 n4 (by omega) (by omega) hL (by rw [sR_wR, if_neg (by omega), nT_R (by have := hl.1; have : zE = 149 := rfl; omega)]; exact e5) (by rw [sR_wR, if_pos ⟨rfl, rfl⟩]) (nT_K e3) n5 ⟨(nT_I (by omega)).trans e4.1, e4.2.1, fun i hi w hw => (nT_I (by omega)).trans (e4.2.2 i hi w hw)⟩ hho
              rw [← ex1, ← ex5] at k1
              exact ⟨s', e1, k1, k2, k3, k4⟩
            · have z0 : sR s 100 (jN x5) = .ref c := z1
              rw [z0]
              simp only [vN_ref]
              rw [if_pos z2]
              obtain ⟨s', k1, k2, k3, k4, -⟩ := d125m (x := x1.toInt.toNat) (y := x5.toInt.toNat) (b := b) (c := c) (r := x2) (q := x3) (ho := x4) hl h ht hu (by omega) (by omega) hL e5 z1 e3 z2 e4 hho
              rw [← ex1, ← ex5] at k1
              exact ⟨s', e1, k1, k2, k3, k4⟩
          · left
            rw [b01_f c4, if_pos rfl]
            exact ⟨hV, fun q => c4 q.2, rfl⟩
        · left
          rw [b01_f c3, if_pos rfl]
          exact ⟨hV, fun q => c3 q.1, rfl⟩
      · left
        rw [b01_f c2, if_pos rfl]
        exact ⟨fun q => c2 q.2.2, rfl⟩
    · left
      rw [b01_f c1, if_pos rfl]
      exact ⟨fun q => c1 q.1, rfl⟩
