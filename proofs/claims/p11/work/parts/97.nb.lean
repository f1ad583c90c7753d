/-! the writer of the reference, exactly: pieces -/
def Er (w : List Int32) (D : Option aS) (s : aS) : Prop := ∃ s', D = some s' ∧ ch wrA s s' ∧ ∀ l k, WM s l k → l.length + w.length < 800000 → WM s' (l ++ w) k
set_option maxRecDepth 100000 in
theorem Er.n (s : aS) : Er [] (some s) s := ⟨s, rfl, ch.refl _ s, fun l k h _ => by rw [List.append_nil]; exact h⟩
set_option maxRecDepth 100000 in
theorem Er.b {w1 w2 : List Int32} {D : Option aS} {K : aS → Option aS} {s : aS} (h : Er w1 D s) (g : ∀ s1, ch wrA s s1 → Er w2 (K s1) s1) : Er (w1 ++ w2) (bu D K) s := by
  obtain ⟨s1, h1, h2, h3⟩ := h
  obtain ⟨s2, k1, k2, k3⟩ := g s1 h2
  rw [h1]
  exact ⟨s2, k1, h2.trans k2, fun l k hl hn => by
    rw [List.length_append] at hn
    rw [← List.append_assoc]
    exact k3 _ k (h3 l k hl (by omega)) (by rw [List.length_append]; omega)⟩
set_option maxRecDepth 100000 in
theorem Er.o {w : List Int32} {D : Option aS} {s : aS} (h : Er w D s) : Er w (bu D fun s3 => some s3) s := by
  obtain ⟨s1, h1, h2, h3⟩ := h
  rw [h1]
  exact ⟨s1, rfl, h2, h3⟩
set_option maxRecDepth 100000 in
theorem Er.eq {w w1 : List Int32} {D : Option aS} {s : aS} (h : Er w D s) (e : w = w1) : Er w1 D s := by
  rw [← e]
  exact h
set_option maxRecDepth 100000 in
theorem e235 (c : Int32) (s : aS) : Er [c] (dm235 c s) s := by
  obtain ⟨s1, h1, h2⟩ := w235 c s
  refine ⟨s1, h1, h2, fun l k h hn => ?_⟩
  have hn : l.length + 1 < 800000 := hn
  obtain ⟨s2, k1, k2, -⟩ := d235 h (by omega) c
  have e : s1 = s2 := Option.some.inj (h1.symm.trans k1)
  rw [e]
  exact k2
set_option maxRecDepth 100000 in
theorem e234 {s : aS} {f p : Nat} {w : List Int32} (hf : f < 9) (hp : p < 1152) (h : RL s f p w) : Er w (dm234 (Int32.ofNat f) (Int32.ofNat p) s) s := by
  obtain ⟨s1, h1, h2⟩ := w234 hf hp h
  refine ⟨s1, h1, h2, fun l k hW hn => ?_⟩
  obtain ⟨s2, k1, k2, -⟩ := d234 hf hp h hW (by omega)
  have e : s1 = s2 := Option.some.inj (h1.symm.trans k1)
  rw [e]
  exact k2
/-- a row -/
def deM (x : Int32) : Nat → List Int32
  | 0 => []
  | m + 1 => dgC x m :: deM x m
set_option maxRecDepth 100000 in
theorem e242b (x : Int32) : ∀ (m n : Nat) (s : aS), m ≤ 8 → m < n → Er (deM x m) (dm242_12 n x (Int32.ofNat (10 ^ m / 10)) s) s
  | 0, n, s, h1, h2 => by
    obtain ⟨n, rfl⟩ : ∃ q, n = q + 1 := ⟨n - 1, by omega⟩
    rw [dm242_12, if_pos (by decide)]
    exact Er.n s
  | m + 1, n, s, h1, h2 => by
    obtain ⟨n, rfl⟩ : ∃ q, n = q + 1 := ⟨n - 1, by omega⟩
    have hp := pw_n (m := m) (by omega)
    have eu : 10 ^ (m + 1) / 10 = 10 ^ m := by rw [Nat.pow_succ, Nat.mul_div_cancel _ (by decide)]
    have hu : (Int32.ofNat (10 ^ m)).toInt = ((10 ^ m : Nat) : Int) := iOfNat (by omega)
    rw [eu, dm242_12, if_neg (by rw [iLe, hu]; show ¬ ((10 ^ m : Nat) : Int) ≤ 0; omega), if_pos (fun q => by have := iEq.mp q; rw [hu] at this; have t0 : (0 : Int32).toInt = 0 := rfl; omega), pw_d (by omega)]
    exact Er.b (w1 := [dgC x m]) (w2 := deM x m) (e235 _ s) fun s1 _ => e242b x m n s1 (by omega) (by omega)
/-- how many figures -/
def lnX (x : Int32) : Nat := if x.toInt < 10 then 1 else if x.toInt < 100 then 2 else if x.toInt < 1000 then 3 else if x.toInt < 10000 then 4 else if x.toInt < 100000 then 5 else if x.toInt < 1000000 then 6 else 7
set_option maxRecDepth 100000 in
theorem lnX_b {x : Int32} (hx : 0 ≤ x.toInt ∧ x.toInt ≤ 1048576) : 1 ≤ lnX x ∧ lnX x ≤ 7 ∧ x.toInt < ((10 ^ lnX x : Nat) : Int) ∧ (2 ≤ lnX x → ((10 ^ (lnX x - 1) : Nat) : Int) ≤ x.toInt) := by
  unfold lnX
  by_cases c1 : x.toInt < 10
  · rw [if_pos c1]
    exact ⟨by decide, by decide, by show x.toInt < 10; omega, fun z => absurd z (by decide)⟩
  rw [if_neg c1]
  by_cases c2 : x.toInt < 100
  · rw [if_pos c2]
    exact ⟨by decide, by decide, by show x.toInt < 100; omega, fun _ => by show (10 : Int) ≤ x.toInt; omega⟩
  rw [if_neg c2]
  by_cases c3 : x.toInt < 1000
  · rw [if_pos c3]
    exact ⟨by decide, by decide, by show x.toInt < 1000; omega, fun _ => by show (100 : Int) ≤ x.toInt; omega⟩
  rw [if_neg c3]
  by_cases c4 : x.toInt < 10000
  · rw [if_pos c4]
    exact ⟨by decide, by decide, by show x.toInt < 10000; omega, fun _ => by show (1000 : Int) ≤ x.toInt; omega⟩
  rw [if_neg c4]
  by_cases c5 : x.toInt < 100000
  · rw [if_pos c5]
    exact ⟨by decide, by decide, by show x.toInt < 100000; omega, fun _ => by show (10000 : Int) ≤ x.toInt; omega⟩
  rw [if_neg c5]
  by_cases c6 : x.toInt < 1000000
  · rw [if_pos c6]
    exact ⟨by decide, by decide, by show x.toInt < 1000000; omega, fun _ => by show (100000 : Int) ≤ x.toInt; omega⟩
  · rw [if_neg c6]
    exact ⟨by decide, by decide, by show x.toInt < 10000000; omega, fun _ => by show (1000000 : Int) ≤ x.toInt; omega⟩
set_option maxRecDepth 100000 in
theorem e242a {x : Int32} (hx : 0 ≤ x.toInt ∧ x.toInt ≤ 1048576) : ∀ (d m n : Nat) (s : aS), m + d + 1 = lnX x → d < n → Er (deM x (lnX x)) (dm242_2 n x (Int32.ofNat (10 ^ m)) s) s := by
  obtain ⟨b1, b2, b3, b4⟩ := lnX_b hx
  have e10 : (x / 10).toInt = x.toInt / 10 := iDiv (y := 10) hx.1 (by decide)
  intro d
  induction d with
  | zero =>
    intro m n s h1 h2
    obtain ⟨n, rfl⟩ : ∃ q, n = q + 1 := ⟨n - 1, by omega⟩
    have hp := pw_n (m := m) (by omega)
    have em : 10 ^ lnX x = 10 ^ m * 10 := by rw [← h1, Nat.add_zero, Nat.pow_succ]
    rw [dm242_2, if_pos (by rw [iLt, e10, iOfNat (by omega)]; rw [em] at b3; omega)]
    have := e242b x (lnX x) 5000 s (by omega) (by omega)
    rw [em, Nat.mul_div_cancel _ (by decide)] at this
    exact this
  | succ d ih =>
    intro m n s h1 h2
    obtain ⟨n, rfl⟩ : ∃ q, n = q + 1 := ⟨n - 1, by omega⟩
    have hp := pw_n (m := m) (by omega)
    have hp1 := pw_n (m := m + 1) (by omega)
    have b5 := b4 (by omega)
    have hle : 10 ^ (m + 1) ≤ 10 ^ (lnX x - 1) := Nat.pow_le_pow_right (by decide) (by omega)
    have es : 10 ^ (m + 1) = 10 ^ m * 10 := Nat.pow_succ ..
    have e : 10 * Int32.ofNat (10 ^ m) = Int32.ofNat (10 ^ (m + 1)) := by
      rw [iEq, iMul (by rw [iOfNat (by omega)]; show -2147483648 ≤ 10 * ((10 ^ m : Nat) : Int); omega) (by rw [iOfNat (by omega)]; show 10 * ((10 ^ m : Nat) : Int) ≤ 2147483647; omega), iOfNat (by omega), iOfNat (by omega)]
      show 10 * ((10 ^ m : Nat) : Int) = ((10 ^ (m + 1) : Nat) : Int)
      omega
    rw [dm242_2, if_neg (by rw [iLt, e10, iOfNat (by omega)]; omega), e]
    exact ih (m + 1) n s (by omega) (by omega)
set_option maxRecDepth 100000 in
theorem e242 {x : Int32} (hx : 0 ≤ x.toInt ∧ x.toInt ≤ 1048576) (s : aS) : Er (deM x (lnX x)) (dm242 x s) s := e242a hx (lnX x - 1) 0 5000 s (by have := lnX_b hx; omega) (by have := lnX_b hx; omega)
/-- column letters -/
def coM (x : Int32) : List Int32 := (if x ≤ 702 then [] else [(64 + ((x - 703) / 676)) + 1]) ++ ((if x ≤ 26 then [] else [65 + (((x - 27) / 26) - ((x - 27) / 26) / 26 * 26)]) ++ [65 + ((x - 1) - (x - 1) / 26 * 26)])
def crM (w c f : Int32) : List Int32 := (if (f &&& 2) ≤ 0 then [] else [36]) ++ (coM c ++ ((if (f &&& 1) ≤ 0 then [] else [36]) ++ deM w (lnX w)))
set_option maxRecDepth 100000 in
theorem e241 {w : Int32} (hw : 0 ≤ w.toInt ∧ w.toInt ≤ 1048576) (c f : Int32) (s : aS) : Er (crM w c f) (dm241 w c f s) s := by
  have f51 : ∀ s, Er (deM w (lnX w)) (dm241_51 w s) s := fun s => by
    unfold dm241_51
    exact (e242 hw s).o
  have f35 : ∀ s, Er ([65 + ((c - 1) - (c - 1) / 26 * 26)] ++ ((if (f &&& 1) ≤ 0 then [] else [36]) ++ deM w (lnX w))) (dm241_35 w c f s) s := fun s => by
    unfold dm241_35
    refine (e235 _ s).b fun s1 _ => ?_
    by_cases q : (f &&& 1) ≤ 0
    · rw [if_pos q, if_pos q]
      exact f51 s1
    · rw [if_neg q, if_neg q]
      exact (e235 _ s1).b fun s2 _ => f51 s2
  have f21 : ∀ s, Er ((if c ≤ 26 then [] else [65 + (((c - 27) / 26) - ((c - 27) / 26) / 26 * 26)]) ++ ([65 + ((c - 1) - (c - 1) / 26 * 26)] ++ ((if (f &&& 1) ≤ 0 then [] else [36]) ++ deM w (lnX w)))) (dm241_21 w c f s) s := fun s => by
    unfold dm241_21
    by_cases q : c ≤ 26
    · rw [if_pos q, if_pos q]
      exact f35 s
    · rw [if_neg q, if_neg q]
      exact (e235 _ s).b fun s1 _ => f35 s1
  have f7 : ∀ s, Er ((if c ≤ 702 then [] else [(64 + ((c - 703) / 676)) + 1]) ++ ((if c ≤ 26 then [] else [65 + (((c - 27) / 26) - ((c - 27) / 26) / 26 * 26)]) ++ ([65 + ((c - 1) - (c - 1) / 26 * 26)] ++ ((if (f &&& 1) ≤ 0 then [] else [36]) ++ deM w (lnX w))))) (dm241_7 w c f s) s := fun s => by
    unfold dm241_7
    by_cases q : c ≤ 702
    · rw [if_pos q, if_pos q]
      exact f21 s
    · rw [if_neg q, if_neg q]
      exact (e235 _ s).b fun s1 _ => f21 s1
  have e : (if (f &&& 2) ≤ 0 then ([] : List Int32) else [36]) ++ ((if c ≤ 702 then [] else [(64 + ((c - 703) / 676)) + 1]) ++ ((if c ≤ 26 then [] else [65 + (((c - 27) / 26) - ((c - 27) / 26) / 26 * 26)]) ++ ([65 + ((c - 1) - (c - 1) / 26 * 26)] ++ ((if (f &&& 1) ≤ 0 then [] else [36]) ++ deM w (lnX w))))) = crM w c f := by
    unfold crM coM
    rw [List.append_assoc, List.append_assoc]
  refine Er.eq ?_ e
  unfold dm241
  by_cases q : (f &&& 2) ≤ 0
  · rw [if_pos q, if_pos q]
    exact f7 s
  · rw [if_neg q, if_neg q]
    exact (e235 _ s).b fun s1 _ => f7 s1
