/-! formulas: a home and a list of nodes, a node by what is told of it -/
abbrev Nd : Type := Nat → Int32
abbrev Fm : Type := Int32 × List Nd
def TC (s : aS) (b : Nat) (L : List Nd) : Prop := sI s b 2 = Int32.ofNat L.length ∧ L.length ≤ 128 ∧ ∀ i (h : i < L.length) w, w < 9 → sI s (b + 1) (11 * i + w) = L[i] w
def TM (s : aS) (f : Nat) (L : List Nd) : Prop := sI s 127 f = Int32.ofNat L.length ∧ L.length ≤ 128 ∧ ∀ i (h : i < L.length) w, w < 9 → sI s (128 + w) (128 * f + i) = L[i] w
def CF (s : aS) (fs : Nat → Option Fm) : Prop := ∀ f, f < 8 → (fs f = none → sI s 101 f = -1) ∧ ∀ h L, fs f = some (h, L) → sI s 101 f = h ∧ h ≠ -1 ∧ ∃ b, sR s 100 f = .ref b ∧ aK s b 3 ∧ TC s b L
def MM (s : aS) (fs : Nat → Option Fm) : Prop := ∀ f, f < 8 → (fs f = none → sI s 125 f = 0) ∧ ∀ h L, fs f = some (h, L) → sI s 125 f = 1 ∧ sI s 126 f = h ∧ TM s f L
/-- which formula a number means -/
def fAt (fs : Nat → Option Fm) (x : Int32) : Option Fm := if 0 ≤ x.toInt ∧ x.toInt < 8 then fs x.toInt.toNat else none
set_option maxRecDepth 100000 in
theorem d54 {s : aS} {fs : Nat → Option Fm} (h : CF s fs) (x : Int32) : (fAt fs x = none ∧ dm54 x s = some .null) ∨ ∃ ho L b, fAt fs x = some (ho, L) ∧ (0 ≤ x.toInt ∧ x.toInt < 8) ∧ dm54 x s = some (.ref b) ∧ aK s b 3 ∧ TC s b L ∧ sR s 100 x.toInt.toNat = .ref b ∧ sI s 101 x.toInt.toNat = ho := by
  unfold dm54 dm55 fAt
  have l1 : x < 0 ↔ x.toInt < 0 := iLt
  have l2 : 8 ≤ x ↔ 8 ≤ x.toInt := iLe
  by_cases h1 : x < 0
  · left
    have := l1.mp h1
    rw [if_pos h1, if_neg (by omega)]
    exact ⟨rfl, rfl⟩
  · rw [if_neg h1]
    have h1 : ¬ x.toInt < 0 := fun q => h1 (l1.mpr q)
    by_cases h2 : 8 ≤ x
    · left
      have := l2.mp h2
      rw [if_pos h2, if_neg (by omega)]
      exact ⟨rfl, rfl⟩
    · rw [if_neg h2]
      have h2 : ¬ 8 ≤ x.toInt := fun q => h2 (l2.mpr q)
      have hb : aB x 8 := by rw [aB_iff]; omega
      have hx : 0 ≤ x.toInt ∧ x.toInt < 8 := by omega
      simp only [bu_some]
      rw [if_pos hx, if_neg (show ¬ (1 : Int32) = 0 by decide), if_pos hb, if_pos hb]
      obtain ⟨a1, a2⟩ := h x.toInt.toNat (by omega)
      cases hf : fs x.toInt.toNat with
      | none =>
        left
        rw [if_pos (show sI s 101 (jN x) = -1 from a1 hf)]
        exact ⟨rfl, rfl⟩
      | some q =>
        obtain ⟨ho, L⟩ := q
        obtain ⟨b1, b2, b, b3, b4, b5⟩ := a2 ho L hf
        right
        have e1 : sI s 101 (jN x) = ho := b1
        have e2 : sR s 100 (jN x) = .ref b := b3
        rw [e1, if_neg b2, e2]
        simp only [vN_ref]
        rw [if_pos b4]
        exact ⟨ho, L, b, rfl, hx, rfl, b4, b5, b3, b1⟩
set_option maxRecDepth 100000 in
theorem d225 {s : aS} {fs : Nat → Option Fm} (h : MM s fs) (x : Int32) : (fAt fs x = none ∧ dm225 x s = some 1) ∨ ∃ ho L, fAt fs x = some (ho, L) ∧ (0 ≤ x.toInt ∧ x.toInt < 8) ∧ dm225 x s = some 0 ∧ TM s x.toInt.toNat L ∧ sI s 126 x.toInt.toNat = ho := by
  unfold dm225 dm225_10 fAt
  have l1 : x < 0 ↔ x.toInt < 0 := iLt
  have l2 : 7 < x ↔ 7 < x.toInt := iLt
  by_cases h1 : x < 0
  · left
    have := l1.mp h1
    rw [if_pos h1, if_neg (by omega)]
    exact ⟨rfl, rfl⟩
  · rw [if_neg h1]
    have h1 : ¬ x.toInt < 0 := fun q => h1 (l1.mpr q)
    by_cases h2 : 7 < x
    · left
      have := l2.mp h2
      rw [if_pos h2, if_neg (by omega)]
      exact ⟨rfl, rfl⟩
    · rw [if_neg h2]
      have h2 : ¬ 7 < x.toInt := fun q => h2 (l2.mpr q)
      have hb : aB x 8 := by rw [aB_iff]; omega
      have hx : 0 ≤ x.toInt ∧ x.toInt < 8 := by omega
      rw [if_pos hb, if_pos hx]
      obtain ⟨a1, a2⟩ := h x.toInt.toNat (by omega)
      cases hf : fs x.toInt.toNat with
      | none =>
        left
        have e : sI s 125 (jN x) = 0 := a1 hf
        rw [if_pos e]
        exact ⟨rfl, rfl⟩
      | some q =>
        obtain ⟨ho, L⟩ := q
        obtain ⟨b1, b2, b3⟩ := a2 ho L hf
        right
        have e : sI s 125 (jN x) = 1 := b1
        rw [e, if_neg (by decide)]
        exact ⟨ho, L, rfl, hx, rfl, b3, b2⟩
set_option maxRecDepth 100000 in
/-- size -/
theorem d159 {s : aS} {fs : Nat → Option Fm} (h : CF s fs) (x : Int32) : (fAt fs x = none ∧ dm159 x s = some (.inr 2, nw s 82 0)) ∨ ∃ ho L, fAt fs x = some (ho, L) ∧ dm159 x s = some (.inl (some (.int (Int32.ofNat L.length))), s) := by
  unfold dm159
  rcases d54 h x with ⟨e1, e2⟩ | ⟨ho, L, b, e1, -, e2, e3, e4, -⟩
  · left
    rw [e2]
    exact ⟨e1, rfl⟩
  · right
    rw [e2]
    simp only [bu_some, vN_ref]
    rw [if_pos e3]
    unfold dm94
    simp only [bu_some]
    rw [e4.1]
    exact ⟨ho, L, e1, rfl⟩
set_option maxRecDepth 100000 in
theorem d243 {s : aS} {fs : Nat → Option Fm} (h : MM s fs) (x : Int32) : (fAt fs x = none ∧ dm243 x s = some (0, wI s 121 0 1)) ∨ ∃ ho L, fAt fs x = some (ho, L) ∧ dm243 x s = some (Int32.ofNat L.length, wI s 121 0 0) := by
  unfold dm243 dm243_8
  rcases d225 h x with ⟨e1, e2⟩ | ⟨ho, L, e1, hx, e2, e3, -⟩
  · left
    refine ⟨e1, ?_⟩
    rw [e2]
    simp only [bu_some]
    rw [if_neg (by decide), nx_eq]
    exact if_neg (show ¬ (1 : Int32) ≤ 0 by decide)
  · right
    refine ⟨ho, L, e1, ?_⟩
    rw [e2]
    simp only [bu_some]
    rw [if_pos trivial, nx_eq, if_pos (show sI (wI s 121 0 0) 121 0 ≤ 0 from (by decide : (0 : Int32) ≤ 0)), if_pos (by rw [aB_iff]; omega)]
    have : sI (wI s 121 0 0) 127 (jN x) = Int32.ofNat L.length := e3.1
    rw [this]
/-- a formula is no more -/
def fsDel (fs : Nat → Option Fm) (x : Nat) : Nat → Option Fm := fun f => if f = x then none else fs f
set_option maxRecDepth 100000 in
theorem d137 {s : aS} {fs : Nat → Option Fm} (h : CF s fs) (x : Int32) : (fAt fs x = none ∧ dm137 x s = some (.inr 2, nw s 82 0)) ∨ ∃ ho L, fAt fs x = some (ho, L) ∧ dm137 x s = some (.inl none, wI s 101 x.toInt.toNat (-1)) := by
  unfold dm137
  rcases d54 h x with ⟨e1, e2⟩ | ⟨ho, L, b, e1, hx, e2, e3, -⟩
  · left
    rw [e2]
    exact ⟨e1, rfl⟩
  · right
    refine ⟨ho, L, e1, ?_⟩
    rw [e2]
    simp only [bu_some, vN_ref]
    rw [if_pos e3, if_pos (by rw [aB_iff]; omega), nx_eq]
    rfl
set_option maxRecDepth 100000 in
theorem d231 {s : aS} {fs : Nat → Option Fm} (h : MM s fs) (x : Int32) : (fAt fs x = none ∧ dm231 x s = some (wI s 121 0 1)) ∨ ∃ ho L, fAt fs x = some (ho, L) ∧ dm231 x s = some (wI (wI s 121 0 0) 125 x.toInt.toNat 0) := by
  unfold dm231 dm231_8
  rcases d225 h x with ⟨e1, e2⟩ | ⟨ho, L, e1, hx, e2, -⟩
  · left
    refine ⟨e1, ?_⟩
    rw [e2]
    simp only [bu_some]
    rw [if_neg (by decide), nx_eq]
    exact if_neg (show ¬ (1 : Int32) = 0 by decide)
  · right
    refine ⟨ho, L, e1, ?_⟩
    rw [e2]
    simp only [bu_some]
    rw [if_pos trivial, nx_eq, if_pos (show sI (wI s 121 0 0) 121 0 = 0 from rfl), if_pos (by rw [aB_iff]; omega)]
    rfl
/-- how many formulas are there, from f on -/
def fsCnt (fs : Nat → Option Fm) : Nat → Nat → Nat
  | 0, _ => 0
  | m + 1, f => (if (fs f).isSome = true then 1 else 0) + fsCnt fs m (f + 1)
set_option maxRecDepth 100000 in
theorem fsCnt_le (fs : Nat → Option Fm) : ∀ m f, fsCnt fs m f ≤ m
  | 0, _ => Nat.le_refl _
  | m + 1, f => by
    have := fsCnt_le fs m (f + 1)
    show (if (fs f).isSome = true then 1 else 0) + fsCnt fs m (f + 1) ≤ m + 1
    split <;> omega
set_option maxRecDepth 100000 in
theorem d168l {s : aS} {fs : Nat → Option Fm} (h : CF s fs) : ∀ (m f c n : Nat), f + m = 8 → m < n → c ≤ f → dm168_4 n (Int32.ofNat c) (Int32.ofNat f) s = some (Int32.ofNat (c + fsCnt fs m f)) := by
  intro m
  induction m with
  | zero =>
    intro f c n hf hn hc
    obtain ⟨n, rfl⟩ : ∃ k, n = k + 1 := ⟨n - 1, by omega⟩
    rw [dm168_4, if_pos (by rw [iLe, iOfNat (by omega)]; show (8 : Int) ≤ f; omega)]
    rfl
  | succ m ih =>
    intro f c n hf hn hc
    obtain ⟨n, rfl⟩ : ∃ k, n = k + 1 := ⟨n - 1, by omega⟩
    rw [dm168_4, if_neg (by rw [iLe, iOfNat (by omega)]; show ¬ (8 : Int) ≤ f; omega), if_pos (by rw [aB_iff, iOfNat (by omega)]; omega)]
    unfold dm168_19
    rw [ofNat_succ (by omega)]
    obtain ⟨a1, a2⟩ := h f (by omega)
    have ej : jN (Int32.ofNat f) = f := jN_of (by omega)
    cases hq : fs f with
    | none =>
      have e : sI s 101 (jN (Int32.ofNat f)) = -1 := by rw [ej]; exact a1 hq
      rw [if_pos e, show Int32.ofNat c + 0 = Int32.ofNat (c + 0) from iSum (j := 0) (by omega) (by omega), ih (f + 1) (c + 0) n (by omega) (by omega) (by omega)]
      show _ = some (Int32.ofNat (c + ((if (fs f).isSome = true then 1 else 0) + fsCnt fs m (f + 1))))
      rw [hq, if_neg (by decide), Nat.zero_add, Nat.add_zero]
    | some q =>
      obtain ⟨ho, L⟩ := q
      obtain ⟨b1, b2, -⟩ := a2 ho L hq
      have e : ¬ sI s 101 (jN (Int32.ofNat f)) = -1 := by rw [ej, b1]; exact b2
      rw [if_neg e, ofNat_succ (by omega), ih (f + 1) (c + 1) n (by omega) (by omega) (by omega)]
      show _ = some (Int32.ofNat (c + ((if (fs f).isSome = true then 1 else 0) + fsCnt fs m (f + 1))))
      rw [hq, if_pos (by rfl), Nat.add_assoc]
set_option maxRecDepth 100000 in
theorem d249l {s : aS} {fs : Nat → Option Fm} (h : MM s fs) : ∀ (m f c n : Nat), f + m = 8 → m < n → c ≤ f → dm249_43 n (Int32.ofNat c) (Int32.ofNat f) s = some (Int32.ofNat (c + fsCnt fs m f), s) := by
  intro m
  induction m with
  | zero =>
    intro f c n hf hn hc
    obtain ⟨n, rfl⟩ : ∃ k, n = k + 1 := ⟨n - 1, by omega⟩
    rw [dm249_43, if_pos (by rw [iLe, iOfNat (by omega)]; show (8 : Int) ≤ f; omega)]
    rfl
  | succ m ih =>
    intro f c n hf hn hc
    obtain ⟨n, rfl⟩ : ∃ k, n = k + 1 := ⟨n - 1, by omega⟩
    rw [dm249_43, if_neg (by rw [iLe, iOfNat (by omega)]; show ¬ (8 : Int) ≤ f; omega), if_pos (by rw [aB_iff, iOfNat (by omega)]; omega)]
    unfold dm249_56
    rw [ofNat_succ (by omega)]
    obtain ⟨a1, a2⟩ := h f (by omega)
    have ej : jN (Int32.ofNat f) = f := jN_of (by omega)
    cases hq : fs f with
    | none =>
      have e : sI s 125 (jN (Int32.ofNat f)) = 0 := by rw [ej]; exact a1 hq
      rw [if_pos e, ih (f + 1) c n (by omega) (by omega) (by omega)]
      show _ = some (Int32.ofNat (c + ((if (fs f).isSome = true then 1 else 0) + fsCnt fs m (f + 1))), s)
      rw [hq, if_neg (by decide), Nat.zero_add]
    | some q =>
      obtain ⟨ho, L⟩ := q
      obtain ⟨b1, -⟩ := a2 ho L hq
      have e : ¬ sI s 125 (jN (Int32.ofNat f)) = 0 := by rw [ej, b1]; decide
      rw [if_neg e, ofNat_succ (by omega), ih (f + 1) (c + 1) n (by omega) (by omega) (by omega)]
      show _ = some (Int32.ofNat (c + ((if (fs f).isSome = true then 1 else 0) + fsCnt fs m (f + 1))), s)
      rw [hq, if_pos (by rfl), Nat.add_assoc]
/-- count -/
def cntV (ns : List (List Int32)) (fs : Nat → Option Fm) (x : Int32) : Int32 := if x = 0 then Int32.ofNat ns.length else if x = 1 then Int32.ofNat (fsCnt fs 8 0) else match fs (x.toInt.toNat - 2) with
  | none => -1
  | some q => q.1
set_option maxRecDepth 100000 in
theorem d166 {s : aS} {ns : List (List Int32)} {fs : Nat → Option Fm} (hs : SC s ns) (h : CF s fs) (x : Int32) : (¬ (0 ≤ x.toInt ∧ x.toInt ≤ 9) ∧ dm166 x s = some (.inr 0, nw s 80 0)) ∨ ((0 ≤ x.toInt ∧ x.toInt ≤ 9) ∧ dm166 x s = some (.inl (some (.int (cntV ns fs x))), s)) := by
  unfold dm166 dm166_5
  have l1 : x < 0 ↔ x.toInt < 0 := iLt
  have l2 : x ≤ 9 ↔ x.toInt ≤ 9 := iLe
  by_cases h1 : x < 0
  · left
    rw [if_pos h1]
    have := l1.mp h1
    exact ⟨by omega, rfl⟩
  · rw [if_neg h1]
    have h1 : ¬ x.toInt < 0 := fun q => h1 (l1.mpr q)
    by_cases h2 : x ≤ 9
    · right
      rw [if_pos h2]
      have h2 := l2.mp h2
      refine ⟨by omega, ?_⟩
      unfold cntV
      by_cases c0 : x = 0
      · rw [if_pos c0, if_pos c0]
        unfold dm167
        simp only [bu_some]
        rw [hs.1]
      · rw [if_neg c0, if_neg c0]
        by_cases c1 : x = 1
        · rw [if_pos c1, if_pos c1]
          unfold dm168
          have := d168l h 8 0 0 5000 (by omega) (by omega) (by omega)
          rw [Nat.zero_add] at this
          have : dm168_4 5000 0 0 s = some (Int32.ofNat (fsCnt fs 8 0)) := this
          rw [this]
          rfl
        · rw [if_neg c1, if_neg c1]
          rw [iEq] at c0 c1
          have c0 : ¬ x.toInt = 0 := c0
          have c1 : ¬ x.toInt = 1 := c1
          have hs2 : (x - 2).toInt = x.toInt - 2 := iSub (y := 2) (by show _ ≤ x.toInt - 2; omega) (by show x.toInt - 2 ≤ _; omega)
          have hj : jN (x - 2) = x.toInt.toNat - 2 := by rw [jN_eq, hs2]; omega
          rw [if_pos (by rw [aB_iff, hs2]; omega), hj]
          obtain ⟨a1, a2⟩ := h (x.toInt.toNat - 2) (by omega)
          cases hq : fs (x.toInt.toNat - 2) with
          | none => rw [a1 hq]
          | some q =>
            obtain ⟨ho, L⟩ := q
            rw [(a2 ho L hq).1]
    · left
      rw [if_neg h2]
      exact ⟨fun q => h2 (l2.mpr q.2), rfl⟩
