/-! letters of a node -/
def NL (s : aS) (b i : Nat) (u l : List Int32) : Prop := ∃ st, sI s (b + 1) (11 * i + 9) = Int32.ofNat st ∧ sI s (b + 1) (11 * i + 10) = Int32.ofNat l.length ∧ st + l.length ≤ u.length ∧ ∀ j (h : j < l.length), u.getD (st + j) (-1) = l[j]
set_option maxRecDepth 100000 in
theorem d144 {s : aS} {b N i : Nat} {u l : List Int32} (hn : sI s b 2 = Int32.ofNat N) (h8 : N ≤ 128) (hi : i < N) (hu : TL s b u) (hT : (sT s (b + 3)).2 = 256) (h : NL s b i u l) (k : Int32) : dm144 b (Int32.ofNat i) k s = some (if k.toInt < 0 then -1 else l.getD k.toInt.toNat (-1)) := by
  obtain ⟨st, a1, a2, a3, a4⟩ := h
  have hul := hu.2.1
  have f9 : dm57 b (Int32.ofNat i) 9 s = some (Int32.ofNat st) := (d57 (w := 9) hn h8 hi (by omega)).trans (by rw [a1])
  have f10 : dm57 b (Int32.ofNat i) 10 s = some (Int32.ofNat l.length) := (d57 (w := 10) hn h8 hi (by omega)).trans (by rw [a2])
  unfold dm144 dm144_10 dm144_11
  rw [f10, f9]
  simp only [bu_some]
  by_cases c1 : k.toInt < 0
  · rw [if_pos (show k < 0 by rw [iLt]; exact c1), if_pos trivial, if_pos c1]
  · rw [if_neg (show ¬ k < 0 by rw [iLt]; exact c1), if_neg c1]
    have hr := iRange k
    have ek := ofNat_of (x := k) (by omega)
    by_cases c2 : l.length ≤ k.toInt.toNat
    · rw [if_pos (show Int32.ofNat l.length ≤ k by rw [iLe, iOfNat (by omega)]; omega), if_pos trivial, getD_out c2]
    · rw [if_neg (show ¬ Int32.ofNat l.length ≤ k by rw [iLe, iOfNat (by omega)]; omega), if_neg (by decide)]
      have e : Int32.ofNat st + k = Int32.ofNat (st + k.toInt.toNat) := by
        have := iSum (i := st) (j := k.toInt.toNat) (by omega) (by omega)
        rw [← ek] at this
        exact this
      rw [e, d34 hu.1 (by rw [show b + 2 + 1 = b + 3 from rfl, hT]; exact hul) (by omega) (by omega)]
      simp only [bu_some]
      rw [a4 _ (by omega), getD_in (by omega)]
/-- in the reference: what lies there of a node -/
def RL (s : aS) (f p : Nat) (w : List Int32) : Prop := ∃ st, sI s 137 p = Int32.ofNat st ∧ sI s 138 p = Int32.ofNat w.length ∧ st + w.length ≤ 256 ∧ ∀ j (h : j < w.length), sI s 139 (256 * f + st + j) = w[j]
/-- quotes doubled -/
def dbl : List Int32 → List Int32
  | [] => []
  | x :: r => if x = 34 then 34 :: 34 :: dbl r else x :: dbl r
set_option maxRecDepth 100000 in
theorem d247p {s : aS} {f p : Nat} {w : List Int32} {kd : Int32} (hf : f < 9) (hp : p < 1152) (h : RL s f p w) (hk : ¬ kd = 1) (k : Int32) (hk0 : 0 ≤ k.toInt) : dm247_20 (Int32.ofNat f) (Int32.ofNat p) k kd s = some (w.getD k.toInt.toNat (-1)) := by
  obtain ⟨st, a1, a2, a3, a4⟩ := h
  have hb : aB (Int32.ofNat p) 1152 := by rw [aB_iff, iOfNat (by omega)]; omega
  have ej : jN (Int32.ofNat p) = p := jN_of (by omega)
  have ek := ofNat_of (x := k) hk0
  have hr := iRange k
  unfold dm247_20
  simp only [if_pos hb, ej, a1, a2]
  rw [if_neg hk]
  by_cases c : w.length ≤ k.toInt.toNat
  · rw [if_pos (show Int32.ofNat w.length ≤ k by rw [iLe, iOfNat (by omega)]; omega), getD_out c]
  · rw [if_neg (show ¬ Int32.ofNat w.length ≤ k by rw [iLe, iOfNat (by omega)]; omega)]
    have e : ((256 * Int32.ofNat f) + Int32.ofNat st) + k = Int32.ofNat (256 * f + st + k.toInt.toNat) := by
      rw [i256 (by omega) (by omega)]
      have := iSum (i := 256 * f + st) (j := k.toInt.toNat) (by omega) (by omega)
      rw [← ek] at this
      exact this
    rw [e, if_pos (by rw [aB_iff, iOfNat (by omega)]; omega), jN_of (by omega), a4 _ (by omega), getD_in (by omega)]
set_option maxRecDepth 100000 in
/-- a text between its quotes, from letter j on -/
theorem d247q {s : aS} {f p st : Nat} {k : Int32} (hf : f < 9) (hp : p < 1152) (hk0 : 0 ≤ k.toInt) : ∀ (r : List Int32) (j q n W : Nat), sI s 138 p = Int32.ofNat W → W = q + (dbl r).length + 1 → st + W ≤ 256 → (∀ i (h : i < (dbl r).length), sI s 139 (256 * f + st + (q + i)) = (dbl r)[i]) → j ≤ k.toInt.toNat → r.length < n → dm247_51 n (Int32.ofNat p) k (Int32.ofNat (256 * f + st)) (Int32.ofNat j) (Int32.ofNat q) s = some (r.getD (k.toInt.toNat - j) (-1)) := by
  have hb : aB (Int32.ofNat p) 1152 := by rw [aB_iff, iOfNat (by omega)]; omega
  have ej : jN (Int32.ofNat p) = p := jN_of (by omega)
  have hr := iRange k
  intro r
  induction r with
  | nil =>
    intro j q n W h1 h2 h3 h4 h5 h6
    obtain ⟨n, rfl⟩ : ∃ a, n = a + 1 := ⟨n - 1, by omega⟩
    have h2 : W = q + 0 + 1 := h2
    rw [dm247_51, if_pos hb, ej, h1, ofNat_sub1 (by omega) (by omega), if_pos (by rw [iLe, iOfNat (by omega), iOfNat (by omega)]; omega)]
    rfl
  | cons x r ih =>
    intro j q n W h1 h2 h3 h4 h5 h6
    obtain ⟨n, rfl⟩ : ∃ a, n = a + 1 := ⟨n - 1, by omega⟩
    have hpos : 1 ≤ (dbl (x :: r)).length := by
      show 1 ≤ (if x = 34 then 34 :: 34 :: dbl r else x :: dbl r).length
      split <;> simp only [List.length_cons] <;> omega
    have h0 : sI s 139 (256 * f + st + q) = x := by
      have := h4 0 (by omega)
      rw [Nat.add_zero] at this
      rw [this]
      by_cases c : x = 34
      · have e : dbl (x :: r) = 34 :: 34 :: dbl r := if_pos c
        simp only [e, List.getElem_cons_zero]
        exact c.symm
      · have e : dbl (x :: r) = x :: dbl r := if_neg c
        simp only [e, List.getElem_cons_zero]
    rw [dm247_51, if_pos hb, ej, h1, ofNat_sub1 (by omega) (by omega), if_neg (by rw [iLe, iOfNat (by omega), iOfNat (by omega)]; omega), iSum (by omega) (by omega)]
    have hq9 : aB (Int32.ofNat (256 * f + st + q)) 2304 := by rw [aB_iff, iOfNat (by omega)]; omega
    have eq9 : jN (Int32.ofNat (256 * f + st + q)) = 256 * f + st + q := jN_of (by omega)
    simp only [if_pos hq9, eq9, h0]
    by_cases cj : j = k.toInt.toNat
    · rw [if_pos (by rw [iEq, iOfNat (by omega)]; omega), cj, Nat.sub_self]
      rfl
    · rw [if_neg (by rw [iEq, iOfNat (by omega)]; omega)]
      unfold dm247_83
      have eg : (x :: r).getD (k.toInt.toNat - j) (-1) = r.getD (k.toInt.toNat - (j + 1)) (-1) := by
        rw [show k.toInt.toNat - j = (k.toInt.toNat - (j + 1)) + 1 by omega]
        rfl
      have hl6 : r.length < n := by
        have : (x :: r).length = r.length + 1 := rfl
        omega
      rw [eg]
      by_cases c : x = 34
      · have e : dbl (x :: r) = 34 :: 34 :: dbl r := if_pos c
        rw [if_pos c, ofNat_succ (by omega), ofNat_succ (by omega), ofNat_succ (by omega)]
        rw [e] at h2
        simp only [List.length_cons] at h2
        refine ih (j + 1) (q + 1 + 1) n W h1 (by omega) h3 (fun i hi => ?_) (by omega) hl6
        have := h4 (i + 2) (by rw [e]; simp only [List.length_cons]; omega)
        rw [show q + (i + 2) = q + 1 + 1 + i by omega] at this
        rw [this]
        simp only [e, List.getElem_cons_succ]
      · have e : dbl (x :: r) = x :: dbl r := if_neg c
        rw [if_neg c, ofNat_succ (by omega), ofNat_succ (by omega)]
        rw [e] at h2
        simp only [List.length_cons] at h2
        refine ih (j + 1) (q + 1) n W h1 (by omega) h3 (fun i hi => ?_) (by omega) hl6
        have := h4 (i + 1) (by rw [e]; simp only [List.length_cons]; omega)
        rw [show q + (i + 1) = q + 1 + i by omega] at this
        rw [this]
        simp only [e, List.getElem_cons_succ]
