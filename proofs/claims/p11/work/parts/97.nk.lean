/-! the writer of FormulaTrees: its frames (the last first) -/
def Fr9 (s : aS) : List (Nat × Nat × Int32) → Prop
  | [] => True
  | q :: S => sI s 118 S.length = Int32.ofNat q.1 ∧ sI s 119 S.length = Int32.ofNat q.2.1 ∧ sI s 120 S.length = q.2.2 ∧ Fr9 s S
set_option maxRecDepth 100000 in
theorem Fr9.of {s s1 : aS} : ∀ (S : List (Nat × Nat × Int32)), (∀ k, k < S.length → sI s1 118 k = sI s 118 k ∧ sI s1 119 k = sI s 119 k ∧ sI s1 120 k = sI s 120 k) → Fr9 s S → Fr9 s1 S
  | [], _, _ => trivial
  | q :: S, e, h => ⟨(e S.length (Nat.lt_succ_self _)).1.trans h.1, (e S.length (Nat.lt_succ_self _)).2.1.trans h.2.1, (e S.length (Nat.lt_succ_self _)).2.2.trans h.2.2.1, Fr9.of S (fun k hk => e k (Nat.lt_succ_of_lt hk)) h.2.2.2⟩
/-- frames, next node, flag -/
def Cf (s : aS) (S : List (Nat × Nat × Int32)) (p : Nat) (g : Int32) : Prop := (sI s 117 4 = Int32.ofNat S.length ∧ S.length ≤ p ∧ p ≤ 128) ∧ sI s 117 6 = Int32.ofNat p ∧ sI s 117 7 = g ∧ Fr9 s S
section CW
variable {s s1 : aS} {S : List (Nat × Nat × Int32)} {p : Nat} {g : Int32}
set_option maxRecDepth 100000 in
theorem Cf.d (h : Cf s S p g) (c : ch wrD s s1) : Cf s1 S p g := ⟨⟨(c.i (by unfold wrD; omega)).trans h.1.1, h.1.2⟩, (c.i (by unfold wrD; omega)).trans h.2.1, (c.i (by unfold wrD; omega)).trans h.2.2.1, Fr9.of (s := s) S (fun k _ => ⟨c.i (by unfold wrD; omega), c.i (by unfold wrD; omega), c.i (by unfold wrD; omega)⟩) h.2.2.2⟩
set_option maxRecDepth 100000 in
theorem WC.of {A : Nat → Nat → Prop} {l : List Int32} {k : Int32} (h : WC s l k) (c : ch A s s1) (hA : ∀ a j, A a j → a ≠ 117 ∨ j < 8) : WC s1 l k := ⟨h.1, (c.i fun z => by have := hA _ _ z; omega).trans h.2.1, (c.i fun z => by have := hA _ _ z; omega).trans h.2.2.1, (c.i fun z => by have := hA _ _ z; omega).trans h.2.2.2⟩
def incF : List (Nat × Nat × Int32) → List (Nat × Nat × Int32)
  | [] => []
  | q :: S => (q.1, q.2.1 + 1, q.2.2) :: S
def wrF (a k : Nat) : Prop := (a = 117 ∧ (k = 4 ∨ k = 6 ∨ k = 7)) ∨ a = 118 ∨ a = 119 ∨ a = 120
set_option maxRecDepth 100000 in
theorem wrF_C {a k : Nat} (h : wrF a k) : wrC a k := by unfold wrF at h; unfold wrC; omega
set_option maxRecDepth 100000 in
theorem x140a {x : Int32} (h : Cf s S p g) (hp : p < 128) (hx : x = 0 ∨ x = 1) : ∃ s1, dm140_24 x s = some s1 ∧ Cf s1 ((p, 0, x) :: S) (p + 1) 1 ∧ ch wrF s s1 := by
  obtain ⟨⟨a1, a2, a3⟩, a4, a5, a6⟩ := h
  have b8 : aB (Int32.ofNat S.length) 128 := aB_of (by omega) (by omega)
  have j8 : jN (Int32.ofNat S.length) = S.length := jN_of (by omega)
  have hx1 : x &&& 1 = x := by
    rcases hx with z | z
    · rw [z]
      decide
    · rw [z]
      decide
  let t1 := wI s 118 S.length (Int32.ofNat p)
  let t2 := wI t1 119 S.length 0
  let t3 := wI t2 120 S.length x
  let t4 := wI t3 117 4 (Int32.ofNat (S.length + 1))
  let t5 := wI t4 117 6 (Int32.ofNat (p + 1))
  let t6 := wI t5 117 7 1
  have d1 : sI t1 117 4 = Int32.ofNat S.length := by
    show sI (wI s 118 S.length (Int32.ofNat p)) 117 4 = _
    rw [sI_wI, if_neg (by omega)]
    exact a1
  have d2 : sI t2 117 4 = Int32.ofNat S.length := by
    show sI (wI t1 119 S.length 0) 117 4 = _
    rw [sI_wI, if_neg (by omega)]
    exact d1
  have d3 : sI t3 117 4 = Int32.ofNat S.length := by
    show sI (wI t2 120 S.length x) 117 4 = _
    rw [sI_wI, if_neg (by omega)]
    exact d2
  have cc : ch wrF s t6 := ((((((ch.refl wrF s).wI (by unfold wrF; omega)).wI (by unfold wrF; omega)).wI (by unfold wrF; omega)).wI (by unfold wrF; omega)).wI (by unfold wrF; omega)).wI (by unfold wrF; omega)
  have c3 : ch (fun a k => (a = 118 ∨ a = 119 ∨ a = 120) ∧ k = S.length) s t3 := (((ch.refl _ s).wI ⟨Or.inl rfl, rfl⟩).wI ⟨Or.inr (Or.inl rfl), rfl⟩).wI ⟨Or.inr (Or.inr rfl), rfl⟩
  have c6 : ch (fun a k => a = 117 ∧ (k = 4 ∨ k = 6 ∨ k = 7)) t3 t6 := (((ch.refl _ t3).wI ⟨rfl, Or.inl rfl⟩).wI ⟨rfl, Or.inr (Or.inl rfl)⟩).wI ⟨rfl, Or.inr (Or.inr rfl)⟩
  refine ⟨t6, ?_, ⟨⟨?_, by rw [List.length_cons]; omega, by omega⟩, ?_, ?_, ?_, ?_, ?_, ?_⟩, cc⟩
  · unfold dm140_24
    rw [a1, if_pos b8, j8, a4]
    simp only [nx_eq]
    rw [show sI (wI s 118 S.length (Int32.ofNat p)) 117 4 = Int32.ofNat S.length from d1, if_pos b8, j8]
    rw [show sI (wI (wI s 118 S.length (Int32.ofNat p)) 119 S.length 0) 117 4 = Int32.ofNat S.length from d2, if_pos b8, j8, hx1]
    rw [show sI (wI (wI (wI s 118 S.length (Int32.ofNat p)) 119 S.length 0) 120 S.length x) 117 4 = Int32.ofNat S.length from d3, ofNat_succ (by omega)]
    have d6 : sI t4 117 6 = Int32.ofNat p := by
      show sI (wI t3 117 4 (Int32.ofNat (S.length + 1))) 117 6 = _
      rw [sI_wI, if_neg (by omega), c3.i (by omega)]
      exact a4
    rw [show sI (wI (wI (wI (wI s 118 S.length (Int32.ofNat p)) 119 S.length 0) 120 S.length x) 117 4 (Int32.ofNat (S.length + 1))) 117 6 = Int32.ofNat p from d6, ofNat_succ (by omega)]
  · show sI (wI (wI t4 117 6 (Int32.ofNat (p + 1))) 117 7 1) 117 4 = Int32.ofNat (S.length + 1)
    rw [sI_wI, if_neg (by omega), sI_wI, if_neg (by omega)]
    show sI (wI t3 117 4 (Int32.ofNat (S.length + 1))) 117 4 = _
    rw [sI_wI, if_pos ⟨rfl, rfl⟩]
  · show sI (wI (wI t4 117 6 (Int32.ofNat (p + 1))) 117 7 1) 117 6 = Int32.ofNat (p + 1)
    rw [sI_wI, if_neg (by omega), sI_wI, if_pos ⟨rfl, rfl⟩]
  · show sI (wI t5 117 7 1) 117 7 = 1
    rw [sI_wI, if_pos ⟨rfl, rfl⟩]
  · rw [c6.i (by omega)]
    show sI (wI (wI (wI s 118 S.length (Int32.ofNat p)) 119 S.length 0) 120 S.length x) 118 S.length = Int32.ofNat p
    rw [sI_wI, if_neg (by omega), sI_wI, if_neg (by omega), sI_wI, if_pos ⟨rfl, rfl⟩]
  · rw [c6.i (by omega)]
    show sI (wI (wI t1 119 S.length 0) 120 S.length x) 119 S.length = Int32.ofNat 0
    rw [sI_wI, if_neg (by omega), sI_wI, if_pos ⟨rfl, rfl⟩]
    rfl
  · rw [c6.i (by omega)]
    show sI (wI t2 120 S.length x) 120 S.length = x
    rw [sI_wI, if_pos ⟨rfl, rfl⟩]
  · exact Fr9.of (s := s) S (fun k hk => ⟨(c6.i (by omega)).trans (c3.i (by omega)), (c6.i (by omega)).trans (c3.i (by omega)), (c6.i (by omega)).trans (c3.i (by omega))⟩) a6
set_option maxRecDepth 100000 in
/-- a frame more, with a bracket or without -/
theorem x140 {x : Int32} (h : Cf s S p g) (hp : p < 128) (hx : x = 0 ∨ x = 1) (hd : ∀ q S0, S = q :: S0 → q.2.1 < 1000) : ∃ s1, dm140 x s = some s1 ∧ Cf s1 ((p, 0, x) :: incF S) (p + 1) 1 ∧ ch wrC s s1 ∧ ∀ l k, WC s l k → l.length + 1 < 900000 → WC s1 (l ++ (if x = 0 then [] else [40])) k := by
  have f19 : ∀ (s : aS) (S : List (Nat × Nat × Int32)), Cf s S p g → ∃ s1, dm140_19 x s = some s1 ∧ Cf s1 ((p, 0, x) :: S) (p + 1) 1 ∧ ch wrC s s1 ∧ ∀ l k, WC s l k → l.length + 1 < 900000 → WC s1 (l ++ (if x = 0 then [] else [40])) k := by
    intro s S h
    unfold dm140_19
    by_cases c : x = 0
    · rw [if_pos c]
      obtain ⟨s1, e1, e2, e3⟩ := x140a h hp hx
      refine ⟨s1, e1, e2, e3.mono fun a k z => wrF_C z, fun l k hl _ => ?_⟩
      rw [if_pos c, List.append_nil]
      exact hl.of e3 (fun a j z => by unfold wrF at z; omega)
    · rw [if_neg c]
      obtain ⟨s0, d1, d2, d3⟩ := x141 40 s
      rw [d1]
      simp only [bu_some]
      obtain ⟨s1, e1, e2, e3⟩ := x140a (h.d d2) hp hx
      refine ⟨s1, e1, e2, (dc d2).trans (e3.mono fun a k z => wrF_C z), fun l k hl hn => ?_⟩
      rw [if_neg c]
      exact (d3 l k hl hn).of e3 (fun a j z => by unfold wrF at z; omega)
  have hh := h
  obtain ⟨⟨a1, a2, a3⟩, a4, a5, a6⟩ := h
  unfold dm140
  rw [a1, if_pos (show Int32.ofNat S.length < 128 from (nlt_iff (b := 128) (by omega) (by omega)).mpr (by omega))]
  cases S with
  | nil =>
    rw [if_pos (by decide)]
    exact f19 s [] hh
  | cons q S0 =>
    have hq := hd q S0 rfl
    have a2 : S0.length + 1 ≤ p := a2
    have eln : (q :: S0).length = S0.length + 1 := rfl
    have e1 : Int32.ofNat (q :: S0).length - 1 = Int32.ofNat S0.length := by
      rw [List.length_cons, ofNat_sub1 (by omega) (by omega)]
      rfl
    rw [if_neg (fun z => by have := (nle_iff (b := 0) (by omega) (by omega)).mp z; omega), e1, if_pos (aB_of (by omega) (by omega)), if_pos (aB_of (by omega) (by omega)), jN_of (by omega), a6.2.1, ofNat_succ (by omega)]
    simp only [nx_eq]
    have c : ch (fun a k => a = 119 ∧ k = S0.length) s (wI s 119 S0.length (Int32.ofNat (q.2.1 + 1))) := (ch.refl _ s).wI ⟨rfl, rfl⟩
    obtain ⟨s1, k1, k2, k3, k4⟩ := f19 (wI s 119 S0.length (Int32.ofNat (q.2.1 + 1))) (incF (q :: S0)) ⟨⟨(c.i (by omega)).trans a1, by show S0.length + 1 ≤ p; omega, a3⟩, (c.i (by omega)).trans a4, (c.i (by omega)).trans a5, (c.i (by omega)).trans a6.1, by rw [sI_wI, if_pos ⟨rfl, rfl⟩], (c.i (by omega)).trans a6.2.2.1, Fr9.of (s := s) S0 (fun k hk => ⟨c.i (by omega), c.i (by omega), c.i (by omega)⟩) a6.2.2.2⟩
    exact ⟨s1, k1, k2, (c.mono fun a k z => by unfold wrC; omega).trans k3, fun l k hl hn => k4 l k (hl.of c (fun a j z => by omega)) hn⟩
set_option maxRecDepth 100000 in
/-- a frame less -/
theorem x156a {q : Nat × Nat × Int32} (h : Cf s (q :: S) p g) (hb : q.2.2 = 0 ∨ q.2.2 = 1) : ∃ s1, dm156_13 s = some s1 ∧ Cf s1 S p g ∧ ch wrC s s1 ∧ ∀ l k, WC s l k → l.length + 1 < 900000 → WC s1 (l ++ (if q.2.2 = 0 then [] else [41])) k := by
  obtain ⟨⟨a1, a2, a3⟩, a4, a5, a6⟩ := h
  rw [List.length_cons] at a1 a2
  have e1 : Int32.ofNat (S.length + 1) - 1 = Int32.ofNat S.length := by
    rw [ofNat_sub1 (by omega) (by omega)]
    rfl
  have c : ch (fun a k => a = 117 ∧ k = 4) s (wI s 117 4 (Int32.ofNat S.length)) := (ch.refl _ s).wI ⟨rfl, rfl⟩
  have hC : Cf (wI s 117 4 (Int32.ofNat S.length)) S p g := ⟨⟨by rw [sI_wI, if_pos ⟨rfl, rfl⟩], by omega, a3⟩, (c.i (by omega)).trans a4, (c.i (by omega)).trans a5, Fr9.of (s := s) S (fun k _ => ⟨c.i (by omega), c.i (by omega), c.i (by omega)⟩) a6.2.2.2⟩
  have e4 : sI (wI s 117 4 (Int32.ofNat S.length)) 117 4 = Int32.ofNat S.length := by rw [sI_wI, if_pos ⟨rfl, rfl⟩]
  have e5 : sI (wI s 117 4 (Int32.ofNat S.length)) 120 S.length = q.2.2 := (c.i (by omega)).trans a6.2.2.1
  unfold dm156_13
  rw [a1, if_neg (fun z => by have := (nle_iff (b := 0) (by omega) (by omega)).mp z; omega), e1]
  simp only [nx_eq]
  rw [e4, if_pos (aB_of (by omega) (by omega)), jN_of (by omega), e5]
  by_cases z : q.2.2 = 0
  · rw [if_pos z]
    refine ⟨_, rfl, hC, c.mono fun a k z => (by unfold wrC; omega), fun l k hl _ => ?_⟩
    rw [if_pos z, List.append_nil]
    exact hl.of c (fun a j z => by omega)
  · rw [if_neg z]
    obtain ⟨s0, d1, d2, d3⟩ := x141 41 (wI s 117 4 (Int32.ofNat S.length))
    rw [d1]
    refine ⟨s0, rfl, hC.d d2, (c.mono fun a k z => by unfold wrC; omega).trans (dc d2), fun l k hl hn => ?_⟩
    rw [if_neg z]
    exact d3 l k (hl.of c (fun a j z => by omega)) hn
end CW
