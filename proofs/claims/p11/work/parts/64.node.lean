/-! count in the reference; what is told of a node -/
set_option maxRecDepth 100000 in
theorem TM.of {A : Nat → Nat → Prop} {s s1 : aS} {f : Nat} {L : List Nd} (h : TM s f L) (g : ch A s s1) (hA : ∀ a k, A a k → a < 125 ∨ 136 < a) : TM s1 f L := ⟨(g.i fun q => by have := hA _ _ q; omega).trans h.1, h.2.1, fun i hi w hw => (g.i fun q => by have := hA _ _ q; omega).trans (h.2.2 i hi w hw)⟩
set_option maxRecDepth 100000 in
theorem MM.of {A : Nat → Nat → Prop} {s s1 : aS} {fs : Nat → Option Fm} (h : MM s fs) (g : ch A s s1) (hA : ∀ a k, A a k → a < 125 ∨ 136 < a) : MM s1 fs := fun f hf => ⟨fun q => (g.i fun q => by have := hA _ _ q; omega).trans ((h f hf).1 q), fun ho L q => ⟨(g.i fun q => by have := hA _ _ q; omega).trans ((h f hf).2 ho L q).1, (g.i fun q => by have := hA _ _ q; omega).trans ((h f hf).2 ho L q).2.1, ((h f hf).2 ho L q).2.2.of g hA⟩⟩
set_option maxRecDepth 100000 in
theorem ch0 (s : aS) (v : Int32) : ch (fun a k => a = 121 ∧ k = 0) s (wI s 121 0 v) := (ch.refl _ s).wI ⟨rfl, rfl⟩
set_option maxRecDepth 100000 in
theorem d249 {s : aS} {ns : List (List Int32)} {fs : Nat → Option Fm} (hs : SM s ns) (h : MM s fs) (x : Int32) : (¬ (0 ≤ x.toInt ∧ x.toInt ≤ 9) ∧ dm249 x s = some (0, wI s 121 0 1)) ∨ ((0 ≤ x.toInt ∧ x.toInt ≤ 9) ∧ dm249 x s = some (cntV ns fs x, wI s 121 0 0)) := by
  have l1 : x < 0 ↔ x.toInt < 0 := iLt
  have l2 : x ≤ 9 ↔ x.toInt ≤ 9 := iLe
  have z : dm249_6 x s = some (0, wI s 121 0 1) := by
    unfold dm249_6 dm249_9
    rw [nx_eq]
    exact if_neg (show ¬ (1 : Int32) ≤ 0 by decide)
  unfold dm249
  by_cases h1 : x < 0
  · left
    rw [if_pos h1]
    have := l1.mp h1
    exact ⟨by omega, z⟩
  · rw [if_neg h1]
    have h1 : ¬ x.toInt < 0 := fun q => h1 (l1.mpr q)
    by_cases h2 : x ≤ 9
    · right
      rw [if_pos h2]
      have h2 := l2.mp h2
      refine ⟨by omega, ?_⟩
      have hM : MM (wI s 121 0 0) fs := h.of (ch0 s 0) (by omega)
      unfold dm249_9 cntV
      rw [nx_eq, if_pos (show sI (wI s 121 0 0) 121 0 ≤ 0 from (by decide : (0 : Int32) ≤ 0))]
      by_cases c0 : x = 0
      · rw [if_pos c0, if_pos c0]
        have : sI (wI s 121 0 0) 121 3 = Int32.ofNat ns.length := hs.1
        rw [this]
      · rw [if_neg c0, if_neg c0]
        by_cases c1 : x = 1
        · rw [if_pos (show x ≤ 1 by rw [c1]; decide), if_pos c1]
          have := d249l hM 8 0 0 5000 (by omega) (by omega) (by omega)
          rw [Nat.zero_add] at this
          exact this
        · rw [if_neg c1]
          rw [iEq] at c0 c1
          have c0 : ¬ x.toInt = 0 := c0
          have c1 : ¬ x.toInt = 1 := c1
          have hs2 : (x - 2).toInt = x.toInt - 2 := iSub (y := 2) (by show _ ≤ x.toInt - 2; omega) (by show x.toInt - 2 ≤ _; omega)
          have hj : jN (x - 2) = x.toInt.toNat - 2 := by rw [jN_eq, hs2]; omega
          have hb : aB (x - 2) 8 := by rw [aB_iff, hs2]; omega
          rw [if_neg (show ¬ x ≤ 1 by rw [iLe]; show ¬ x.toInt ≤ 1; omega), if_pos hb, if_pos hb, hj]
          obtain ⟨a1, a2⟩ := hM (x.toInt.toNat - 2) (by omega)
          cases hq : fs (x.toInt.toNat - 2) with
          | none => rw [if_pos (a1 hq)]
          | some q =>
            obtain ⟨ho, L⟩ := q
            obtain ⟨b1, b2, -⟩ := a2 ho L hq
            rw [b1, if_neg (by decide), b2]
    · left
      rw [if_neg h2]
      exact ⟨fun q => h2 (l2.mpr q.2), z⟩
set_option maxRecDepth 100000 in
theorem iM11 {i w : Nat} (hi : i < 100000) (hw : w < 100000) : (Int32.ofNat i * 11) + Int32.ofNat w = Int32.ofNat (11 * i + w) := by
  have e1 : (Int32.ofNat i).toInt = i := iOfNat (by omega)
  have e2 : (Int32.ofNat w).toInt = w := iOfNat (by omega)
  have e3 : (Int32.ofNat i * 11).toInt = 11 * i := by
    rw [iMul (y := 11) (by rw [e1]; show _ ≤ (i : Int) * 11; omega) (by rw [e1]; show (i : Int) * 11 ≤ _; omega), e1]
    show (i : Int) * 11 = _
    omega
  apply Int32.toInt_inj.mp
  rw [iAdd (by rw [e3, e2]; omega) (by rw [e3, e2]; omega), e3, e2, iOfNat (by omega)]
  omega
set_option maxRecDepth 100000 in
theorem i128 {f i : Nat} (hf : f < 10000) (hi : i < 100000) : (128 * Int32.ofNat f) + Int32.ofNat i = Int32.ofNat (128 * f + i) := by
  have e1 : (Int32.ofNat f).toInt = f := iOfNat (by omega)
  have e2 : (Int32.ofNat i).toInt = i := iOfNat (by omega)
  have e3 : (128 * Int32.ofNat f).toInt = 128 * f := by
    rw [iMul (x := 128) (by rw [e1]; show _ ≤ (128 : Int) * f; omega) (by rw [e1]; show (128 : Int) * f ≤ _; omega), e1]
    rfl
  apply Int32.toInt_inj.mp
  rw [iAdd (by rw [e3, e2]; omega) (by rw [e3, e2]; omega), e3, e2, iOfNat (by omega)]
  omega
set_option maxRecDepth 100000 in
/-- a fact of a node -/
theorem d57 {s : aS} {b n i w : Nat} (hn : sI s b 2 = Int32.ofNat n) (h8 : n ≤ 128) (hi : i < n) (hw : w < 11) : dm57 b (Int32.ofNat i) (Int32.ofNat w) s = some (sI s (b + 1) (11 * i + w)) := by
  unfold dm57 dm57_14
  rw [hn, if_neg (by rw [iLt, iOfNat (by omega)]; show ¬ (i : Int) < 0; omega), if_neg (by rw [iLe, iOfNat (by omega), iOfNat (by omega)]; omega), if_neg (by rw [iLt, iOfNat (by omega)]; show ¬ (w : Int) < 0; omega), if_neg (by rw [iLe, iOfNat (by omega)]; show ¬ (11 : Int) ≤ w; omega), if_neg (by decide), iM11 (by omega) (by omega), if_pos (by rw [aB_iff, iOfNat (by omega)]; omega), jN_of (by omega)]
set_option maxRecDepth 100000 in
theorem ofNat_of {x : Int32} (h : 0 ≤ x.toInt) : x = Int32.ofNat x.toInt.toNat := by
  have := iRange x
  apply Int32.toInt_inj.mp
  rw [iOfNat (by omega)]
  omega
set_option maxRecDepth 100000 in
theorem d160 {s : aS} {fs : Nat → Option Fm} (h : CF s fs) (x y z : Int32) :
    (((fAt fs x = none) ∨ ∃ ho L, fAt fs x = some (ho, L) ∧ ¬ (0 ≤ y.toInt ∧ y.toInt < L.length)) ∧ dm160 x y z s = some (.inr 2, nw s 82 0)) ∨
    ∃ ho L, fAt fs x = some (ho, L) ∧ (0 ≤ y.toInt ∧ y.toInt < L.length) ∧ ((¬ (0 ≤ z.toInt ∧ z.toInt ≤ 8) ∧ dm160 x y z s = some (.inr 0, nw s 80 0)) ∨ ((0 ≤ z.toInt ∧ z.toInt ≤ 8) ∧ dm160 x y z s = some (.inl (some (.int ((L.getD y.toInt.toNat (fun _ => 0)) z.toInt.toNat))), s))) := by
  unfold dm160 dm160_10 dm160_20
  rcases d54 h x with ⟨e1, e2⟩ | ⟨ho, L, b, e1, -, e2, e3, e4, -⟩
  · left
    rw [e2]
    exact ⟨Or.inl e1, rfl⟩
  · rw [e2]
    simp only [bu_some, vN_ref]
    rw [if_pos e3]
    unfold dm161
    have h128 := e4.2.1
    have l1 : y < 0 ↔ y.toInt < 0 := iLt
    have l2 : Int32.ofNat L.length ≤ y ↔ (L.length : Int) ≤ y.toInt := by rw [iLe, iOfNat (by omega)]
    rw [e4.1]
    by_cases h1 : y < 0
    · left
      rw [if_pos h1]
      have := l1.mp h1
      exact ⟨Or.inr ⟨ho, L, e1, by omega⟩, rfl⟩
    · rw [if_neg h1]
      have h1 : ¬ y.toInt < 0 := fun q => h1 (l1.mpr q)
      by_cases h2 : Int32.ofNat L.length ≤ y
      · left
        rw [if_pos h2]
        have := l2.mp h2
        exact ⟨Or.inr ⟨ho, L, e1, by omega⟩, rfl⟩
      · right
        rw [if_neg h2]
        have h2 : ¬ (L.length : Int) ≤ y.toInt := fun q => h2 (l2.mpr q)
        refine ⟨ho, L, e1, by omega, ?_⟩
        simp only [bu_some]
        rw [if_neg (by decide)]
        have l3 : z < 0 ↔ z.toInt < 0 := iLt
        have l4 : z < 9 ↔ z.toInt < 9 := iLt
        by_cases h3 : z < 0
        · left
          rw [if_pos h3]
          have := l3.mp h3
          exact ⟨by omega, rfl⟩
        · rw [if_neg h3]
          have h3 : ¬ z.toInt < 0 := fun q => h3 (l3.mpr q)
          by_cases h4 : z < 9
          · right
            rw [if_pos h4]
            have h4 := l4.mp h4
            refine ⟨by omega, ?_⟩
            have hi : y.toInt.toNat < L.length := by omega
            have q := d57 (s := s) (b := b) (n := L.length) (i := y.toInt.toNat) (w := z.toInt.toNat) e4.1 h128 hi (by omega)
            rw [← ofNat_of (x := y) (by omega), ← ofNat_of (x := z) (by omega), e4.2.2 _ hi _ (by omega)] at q
            rw [q]
            simp only [bu_some]
            have : L.getD y.toInt.toNat (fun _ => 0) = L[y.toInt.toNat] := by
              rw [List.getD, List.getElem?_eq_getElem hi]
              rfl
            rw [this]
          · left
            rw [if_neg h4]
            exact ⟨fun q => h4 (l4.mpr (by omega)), rfl⟩
set_option maxRecDepth 100000 in
theorem d245 {s : aS} {f i w : Nat} {L : List Nd} (h : TM s f L) (hf : f < 9) (hi : i < L.length) (hw : w < 9) : dm245 (Int32.ofNat (128 * f + i)) (Int32.ofNat w) s = some (L[i] w) := by
  have h128 := h.2.1
  have hb : aB (Int32.ofNat (128 * f + i)) 1152 := by rw [aB_iff, iOfNat (by omega)]; omega
  have ej : jN (Int32.ofNat (128 * f + i)) = 128 * f + i := jN_of (by omega)
  have e := h.2.2 i hi w hw
  unfold dm245
  match w, hw with
  | 0, _ => rw [if_pos (by decide), if_pos hb, ej, e]
  | 1, _ => rw [if_neg (by decide), if_pos (by decide), if_pos hb, ej, e]
  | 2, _ => rw [if_neg (by decide), if_neg (by decide), if_pos (by decide), if_pos hb, ej, e]
  | 3, _ => rw [if_neg (by decide), if_neg (by decide), if_neg (by decide), if_pos (by decide), if_pos hb, ej, e]
  | 4, _ => rw [if_neg (by decide), if_neg (by decide), if_neg (by decide), if_neg (by decide), if_pos (by decide), if_pos hb, ej, e]
  | 5, _ => rw [if_neg (by decide), if_neg (by decide), if_neg (by decide), if_neg (by decide), if_neg (by decide), if_pos (by decide), if_pos hb, ej, e]
  | 6, _ => rw [if_neg (by decide), if_neg (by decide), if_neg (by decide), if_neg (by decide), if_neg (by decide), if_neg (by decide), if_pos (by decide), if_pos hb, ej, e]
  | 7, _ => rw [if_neg (by decide), if_neg (by decide), if_neg (by decide), if_neg (by decide), if_neg (by decide), if_neg (by decide), if_neg (by decide), if_pos (by decide), if_pos hb, ej, e]
  | 8, _ => rw [if_neg (by decide), if_neg (by decide), if_neg (by decide), if_neg (by decide), if_neg (by decide), if_neg (by decide), if_neg (by decide), if_neg (by decide), if_pos hb, ej, e]
set_option maxRecDepth 100000 in
theorem d244 {s : aS} {fs : Nat → Option Fm} (h : MM s fs) (x y z : Int32) :
    (((fAt fs x = none) ∨ ∃ ho L, fAt fs x = some (ho, L) ∧ ¬ (0 ≤ y.toInt ∧ y.toInt < L.length)) ∧ dm244 x y z s = some (0, wI s 121 0 1)) ∨
    ∃ ho L, fAt fs x = some (ho, L) ∧ (0 ≤ y.toInt ∧ y.toInt < L.length) ∧ ((¬ (0 ≤ z.toInt ∧ z.toInt ≤ 8) ∧ dm244 x y z s = some (0, wI s 121 0 2)) ∨ ((0 ≤ z.toInt ∧ z.toInt ≤ 8) ∧ dm244 x y z s = some ((L.getD y.toInt.toNat (fun _ => 0)) z.toInt.toNat, wI s 121 0 0))) := by
  have z1 : dm244_13 x y z s = some (0, wI s 121 0 1) := by
    unfold dm244_13 dm244_23
    rw [nx_eq]
    exact if_neg (show ¬ (1 : Int32) ≤ 0 by decide)
  have z2 : dm244_20 x y z s = some (0, wI s 121 0 2) := by
    unfold dm244_20 dm244_23
    rw [nx_eq]
    exact if_neg (show ¬ (2 : Int32) ≤ 0 by decide)
  unfold dm244
  rcases d225 h x with ⟨e1, e2⟩ | ⟨ho, L, e1, hx, e2, e3, -⟩
  · left
    rw [e2]
    simp only [bu_some]
    rw [if_neg (by decide), z1]
    exact ⟨Or.inl e1, rfl⟩
  · rw [e2]
    simp only [bu_some]
    rw [if_pos trivial]
    have h128 := e3.2.1
    have l1 : y < 0 ↔ y.toInt < 0 := iLt
    have eL : sI s 127 (jN x) = Int32.ofNat L.length := e3.1
    have l2 : y < Int32.ofNat L.length ↔ y.toInt < (L.length : Int) := by rw [iLt, iOfNat (by omega)]
    by_cases h1 : y < 0
    · left
      rw [if_pos h1, z1]
      have := l1.mp h1
      exact ⟨Or.inr ⟨ho, L, e1, by omega⟩, rfl⟩
    · rw [if_neg h1, if_pos (by rw [aB_iff]; omega), eL]
      have h1 : ¬ y.toInt < 0 := fun q => h1 (l1.mpr q)
      by_cases h2 : y < Int32.ofNat L.length
      · right
        rw [if_pos h2]
        have h2 := l2.mp h2
        refine ⟨ho, L, e1, by omega, ?_⟩
        have l3 : z < 0 ↔ z.toInt < 0 := iLt
        have l4 : z ≤ 8 ↔ z.toInt ≤ 8 := iLe
        by_cases h3 : z < 0
        · left
          rw [if_pos h3, z2]
          have := l3.mp h3
          exact ⟨by omega, rfl⟩
        · rw [if_neg h3]
          have h3 : ¬ z.toInt < 0 := fun q => h3 (l3.mpr q)
          by_cases h4 : z ≤ 8
          · right
            rw [if_pos h4]
            have h4 := l4.mp h4
            refine ⟨by omega, ?_⟩
            have hi : y.toInt.toNat < L.length := by omega
            unfold dm244_23
            rw [nx_eq, if_pos (show sI (wI s 121 0 0) 121 0 ≤ 0 from (by decide : (0 : Int32) ≤ 0))]
            have el : (128 * x) + y = Int32.ofNat (128 * x.toInt.toNat + y.toInt.toNat) := by
              have := i128 (f := x.toInt.toNat) (i := y.toInt.toNat) (by omega) (by omega)
              rw [← ofNat_of (x := x) (by omega), ← ofNat_of (x := y) (by omega)] at this
              exact this
            have q := d245 (s := wI s 121 0 0) (f := x.toInt.toNat) (i := y.toInt.toNat) (w := z.toInt.toNat) (e3.of (ch0 s 0) (by omega)) (by omega) hi (by omega)
            rw [← ofNat_of (x := z) (by omega)] at q
            rw [el, q]
            simp only [bu_some]
            have : L.getD y.toInt.toNat (fun _ => 0) = L[y.toInt.toNat] := by
              rw [List.getD, List.getElem?_eq_getElem hi]
              rfl
            rw [this]
          · left
            rw [if_neg h4, z2]
            exact ⟨fun q => h4 (l4.mpr q.2), rfl⟩
      · left
        rw [if_neg h2, z1]
        have h2 : ¬ y.toInt < (L.length : Int) := fun q => h2 (l2.mpr q)
        exact ⟨Or.inr ⟨ho, L, e1, by omega⟩, rfl⟩
