/-! letter as a whole in both: lt f i are the letters of node i of formula f -/
def CLt (s : aS) (fs : Nat → Option Fm) (lt : Nat → Nat → List Int32) : Prop := ∀ f, f < 8 → ∀ h L, fs f = some (h, L) → ∀ b, sR s 100 f = .ref b → ∃ u, TL s b u ∧ ∀ i, i < L.length → NL s b i u (lt f i)
def MLt (s : aS) (fs : Nat → Option Fm) (lt : Nat → Nat → List Int32) : Prop := ∀ f, f < 8 → ∀ h L, fs f = some (h, L) → ∀ i (g : i < L.length), NM s f (128 * f + i) (L[i] 0) (lt f i)
set_option maxRecDepth 100000 in
theorem fAt_s {fs : Nat → Option Fm} {x : Int32} {v : Fm} (h : fAt fs x = some v) : (0 ≤ x.toInt ∧ x.toInt < 8) ∧ fs x.toInt.toNat = some v := by
  unfold fAt at h
  by_cases q : 0 ≤ x.toInt ∧ x.toInt < 8
  · rw [if_pos q] at h
    exact ⟨q, h⟩
  · rw [if_neg q] at h
    cases h
set_option maxRecDepth 100000 in
theorem d162 {tt : Nat} {cc : Nat → Nat → Int32} {s : aS} {fs : Nat → Option Fm} {lt : Nat → Nat → List Int32} (hl : Ly tt cc s) (h : CF s fs) (hc : CLt s fs lt) (x y z : Int32) :
    (((fAt fs x = none) ∨ ∃ ho L, fAt fs x = some (ho, L) ∧ ¬ (0 ≤ y.toInt ∧ y.toInt < L.length)) ∧ dm162 x y z s = some (.inr 2, nw s 82 0)) ∨
    ∃ ho L, fAt fs x = some (ho, L) ∧ (0 ≤ y.toInt ∧ y.toInt < L.length) ∧ dm162 x y z s = some (.inl (some (.int (if z.toInt < 0 then -1 else (lt x.toInt.toNat y.toInt.toNat).getD z.toInt.toNat (-1)))), s) := by
  unfold dm162 dm162_10
  rcases d54 h x with ⟨e1, e2⟩ | ⟨ho, L, b, e1, hx, e2, e3, e4, e5, -⟩
  · left
    rw [e2]
    exact ⟨Or.inl e1, rfl⟩
  · rw [e2]
    simp only [bu_some, vN_ref]
    rw [if_pos e3]
    unfold dm161
    have h128 := e4.2.1
    have l1 : y < 0 ↔ y.toInt < 0 := iLt
    have l2 : Int32.ofNat L.length ≤ y ↔ (L.length : Int) ≤ y.toInt := by rw [iLe, iOfNat (by omega)]
    rw [e4.1]
    by_cases h1 : y < 0
    · left
      rw [if_pos h1]
      have := l1.mp h1
      exact ⟨Or.inr ⟨ho, L, e1, by omega⟩, rfl⟩
    · rw [if_neg h1]
      have h1 : ¬ y.toInt < 0 := fun q => h1 (l1.mpr q)
      by_cases h2 : Int32.ofNat L.length ≤ y
      · left
        rw [if_pos h2]
        have := l2.mp h2
        exact ⟨Or.inr ⟨ho, L, e1, by omega⟩, rfl⟩
      · right
        rw [if_neg h2]
        have h2 : ¬ (L.length : Int) ≤ y.toInt := fun q => h2 (l2.mpr q)
        refine ⟨ho, L, e1, by omega, ?_⟩
        simp only [bu_some]
        rw [if_neg (by decide)]
        obtain ⟨u, u1, u2⟩ := hc x.toInt.toNat (by omega) ho L (fAt_s e1).2 b e5
        have q := d144 (i := y.toInt.toNat) e4.1 h128 (by omega) u1 (by rw [(hl.tr e3).2.2.2.2.2.2.1]) (u2 _ (by omega)) z
        rw [← ofNat_of (x := y) (by omega)] at q
        rw [q]
        rfl
set_option maxRecDepth 100000 in
theorem d246 {s : aS} {fs : Nat → Option Fm} {lt : Nat → Nat → List Int32} (h : MM s fs) (hc : MLt s fs lt) (x y z : Int32) :
    (((fAt fs x = none) ∨ ∃ ho L, fAt fs x = some (ho, L) ∧ ¬ (0 ≤ y.toInt ∧ y.toInt < L.length)) ∧ dm246 x y z s = some (0, wI s 121 0 1)) ∨
    ∃ ho L, fAt fs x = some (ho, L) ∧ (0 ≤ y.toInt ∧ y.toInt < L.length) ∧ dm246 x y z s = some (if z.toInt < 0 then -1 else (lt x.toInt.toNat y.toInt.toNat).getD z.toInt.toNat (-1), wI s 121 0 0) := by
  have z1 : dm246_13 x y z s = some (0, wI s 121 0 1) := by
    unfold dm246_13 dm246_16
    rw [nx_eq]
    exact if_neg (show ¬ (1 : Int32) ≤ 0 by decide)
  unfold dm246
  rcases d225 h x with ⟨e1, e2⟩ | ⟨ho, L, e1, hx, e2, e3, -⟩
  · left
    rw [e2]
    simp only [bu_some]
    rw [if_neg (by decide), z1]
    exact ⟨Or.inl e1, rfl⟩
  · rw [e2]
    simp only [bu_some]
    rw [if_pos trivial]
    have h128 := e3.2.1
    have l1 : y < 0 ↔ y.toInt < 0 := iLt
    have eL : sI s 127 (jN x) = Int32.ofNat L.length := e3.1
    have l2 : y < Int32.ofNat L.length ↔ y.toInt < (L.length : Int) := by rw [iLt, iOfNat (by omega)]
    by_cases h1 : y < 0
    · left
      rw [if_pos h1, z1]
      have := l1.mp h1
      exact ⟨Or.inr ⟨ho, L, e1, by omega⟩, rfl⟩
    · rw [if_neg h1, if_pos (by rw [aB_iff]; omega), eL]
      have h1 : ¬ y.toInt < 0 := fun q => h1 (l1.mpr q)
      by_cases h2 : y < Int32.ofNat L.length
      · right
        rw [if_pos h2]
        have h2 := l2.mp h2
        refine ⟨ho, L, e1, by omega, ?_⟩
        have hi : y.toInt.toNat < L.length := by omega
        unfold dm246_16
        rw [nx_eq, if_pos (show sI (wI s 121 0 0) 121 0 ≤ 0 from (by decide : (0 : Int32) ≤ 0))]
        have el : (128 * x) + y = Int32.ofNat (128 * x.toInt.toNat + y.toInt.toNat) := by
          have := i128 (f := x.toInt.toNat) (i := y.toInt.toNat) (by omega) (by omega)
          rw [← ofNat_of (x := x) (by omega), ← ofNat_of (x := y) (by omega)] at this
          exact this
        have hN := hc x.toInt.toNat (by omega) ho L (fAt_s e1).2 _ hi
        have hR : ∀ w, RL s x.toInt.toNat (128 * x.toInt.toNat + y.toInt.toNat) w → RL (wI s 121 0 0) x.toInt.toNat (128 * x.toInt.toNat + y.toInt.toNat) w := fun w ⟨st, a1, a2, a3, a4⟩ => ⟨st, ((ch0 s 0).i (by omega)).trans a1, ((ch0 s 0).i (by omega)).trans a2, a3, fun j hj => ((ch0 s 0).i (by omega)).trans (a4 j hj)⟩
        have q := d247 (s := wI s 121 0 0) (f := x.toInt.toNat) (p := 128 * x.toInt.toNat + y.toInt.toNat) (kd := L[y.toInt.toNat] 0) (by omega) (by omega) (((ch0 s 0).i (by omega)).trans (e3.2.2 _ hi 0 (by omega))) ⟨fun z => hR _ (hN.1 z), fun z => hR _ (hN.2.1 z), hN.2.2⟩ z
        rw [← ofNat_of (x := x) (by omega)] at q
        rw [el, q]
        rfl
      · left
        rw [if_neg h2, z1]
        have h2 : ¬ y.toInt < (L.length : Int) := fun q => h2 (l2.mpr q)
        exact ⟨Or.inr ⟨ho, L, e1, by omega⟩, rfl⟩
