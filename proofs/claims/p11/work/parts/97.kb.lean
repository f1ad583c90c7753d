/-! the reader of FormulaTrees, exactly: operators that wait, and brackets (the last first) -/
def PPr (s : aS) : List (Int32 × Nat) → Prop
  | [] => True
  | p :: P => sI s 111 P.length = p.1 ∧ sI s 112 P.length = Int32.ofNat p.2 ∧ PPr s P
def BBr (s : aS) : List (Nat × Int32 × Nat) → Prop
  | [] => True
  | q :: B => sI s 114 B.length = Int32.ofNat q.1 ∧ sI s 115 B.length = q.2.1 ∧ sI s 116 B.length = Int32.ofNat q.2.2 ∧ BBr s B
def PB (s : aS) (P : List (Int32 × Nat)) (B : List (Nat × Int32 × Nat)) : Prop := (sI s 110 2 = Int32.ofNat P.length ∧ P.length ≤ 128 ∧ PPr s P) ∧ sI s 113 3 = Int32.ofNat B.length ∧ B.length ≤ 32 ∧ BBr s B
set_option maxRecDepth 100000 in
theorem PPr.of {s s1 : aS} : ∀ (P : List (Int32 × Nat)), (∀ k, k < P.length → sI s1 111 k = sI s 111 k ∧ sI s1 112 k = sI s 112 k) → PPr s P → PPr s1 P
  | [], _, _ => trivial
  | p :: P, e, h => ⟨(e P.length (Nat.lt_succ_self _)).1.trans h.1, (e P.length (Nat.lt_succ_self _)).2.trans h.2.1, PPr.of P (fun k hk => e k (Nat.lt_succ_of_lt hk)) h.2.2⟩
set_option maxRecDepth 100000 in
theorem BBr.of {s s1 : aS} : ∀ (B : List (Nat × Int32 × Nat)), (∀ k, k < B.length → sI s1 114 k = sI s 114 k ∧ sI s1 115 k = sI s 115 k ∧ sI s1 116 k = sI s 116 k) → BBr s B → BBr s1 B
  | [], _, _ => trivial
  | q :: B, e, h => ⟨(e B.length (Nat.lt_succ_self _)).1.trans h.1, (e B.length (Nat.lt_succ_self _)).2.1.trans h.2.1, (e B.length (Nat.lt_succ_self _)).2.2.trans h.2.2.1, BBr.of B (fun k hk => e k (Nat.lt_succ_of_lt hk)) h.2.2.2⟩
section XX
variable {s s1 : aS} {P : List (Int32 × Nat)} {B : List (Nat × Int32 × Nat)} {A : Nat → Nat → Prop}
set_option maxRecDepth 100000 in
theorem PB.of (h : PB s P B) (g : ch A s s1) (hA : ∀ a k, A a k → a < 110 ∨ 116 < a) : PB s1 P B := by
  have e : ∀ a k, 110 ≤ a → a ≤ 116 → sI s1 a k = sI s a k := fun a k h1 h2 => g.i fun q => by have := hA _ _ q; omega
  exact ⟨⟨(e 110 2 (by omega) (by omega)).trans h.1.1, h.1.2.1, h.1.2.2 |> PPr.of P (fun k _ => ⟨e 111 k (by omega) (by omega), e 112 k (by omega) (by omega)⟩)⟩, (e 113 3 (by omega) (by omega)).trans h.2.1, h.2.2.1, BBr.of B (fun k _ => ⟨e 114 k (by omega) (by omega), e 115 k (by omega) (by omega), e 116 k (by omega) (by omega)⟩) h.2.2.2⟩
def bA : List (Nat × Int32 × Nat) → Int32
  | [] => -1
  | q :: _ => q.2.1
def bP : List (Nat × Int32 × Nat) → Nat
  | [] => 0
  | q :: _ => q.1
def bS : List (Nat × Int32 × Nat) → Nat
  | [] => 0
  | q :: _ => q.2.2
set_option maxRecDepth 100000 in
theorem pb_top {q : Nat × Int32 × Nat} (h : PB s P (q :: B)) : ¬ sI s 113 3 ≤ 0 ∧ sI s 113 3 - 1 = Int32.ofNat B.length ∧ aB (sI s 113 3 - 1) 32 ∧ jN (sI s 113 3 - 1) = B.length := by
  have h1 := h.2.1
  have h2 : B.length + 1 ≤ 32 := h.2.2.1
  rw [List.length_cons] at h1
  have e : sI s 113 3 - 1 = Int32.ofNat B.length := by
    rw [h1, ofNat_sub1 (by omega) (by omega)]
    rfl
  refine ⟨fun q => ?_, e, by rw [e]; exact aB_of (by omega) (by omega), by rw [e]; exact jN_of (by omega)⟩
  rw [h1] at q
  have := (nle_iff (b := 0) (by omega) (by omega)).mp q
  omega
set_option maxRecDepth 100000 in
theorem pb_0 (h : PB s P []) : sI s 113 3 ≤ 0 := by
  rw [h.2.1]
  decide
set_option maxRecDepth 100000 in
theorem x74 (h : PB s P B) : dm74 s = some (bA B) := by
  unfold dm74
  cases B with
  | nil => rw [if_pos (pb_0 h)]; rfl
  | cons q B =>
    obtain ⟨a1, a2, a3, a4⟩ := pb_top h
    rw [if_neg a1, if_pos a3, a4, h.2.2.2.2.1]
    rfl
set_option maxRecDepth 100000 in
theorem x78 (h : PB s P B) : dm78 s = some (Int32.ofNat (bP B)) := by
  unfold dm78
  cases B with
  | nil => rw [if_pos (pb_0 h)]; rfl
  | cons q B =>
    obtain ⟨a1, a2, a3, a4⟩ := pb_top h
    rw [if_neg a1, if_pos a3, a4, h.2.2.2.1]
    rfl
set_option maxRecDepth 100000 in
theorem x79 (h : PB s P B) : dm79 s = some (Int32.ofNat (bS B)) := by
  unfold dm79
  cases B with
  | nil => rw [if_pos (pb_0 h)]; rfl
  | cons q B =>
    obtain ⟨a1, a2, a3, a4⟩ := pb_top h
    rw [if_neg a1, if_pos a3, a4, h.2.2.2.2.2.1]
    rfl
set_option maxRecDepth 100000 in
theorem x73 (h : PB s P B) : dm73 s = some (if bA B = -1 then 0 else 1) := by
  unfold dm73
  rw [x74 h]
  simp only [bu_some]
  split <;> rfl
set_option maxRecDepth 100000 in
theorem x82 (h : PB s P B) : dm82 s = some (Int32.ofNat B.length) := by
  unfold dm82
  rw [h.2.1]
set_option maxRecDepth 100000 in
/-- one more argument -/
theorem x76 {q : Nat × Int32 × Nat} (h : PB s P (q :: B)) : ∃ s1, dm76 s = some s1 ∧ PB s1 P ((q.1, q.2.1 + 1, q.2.2) :: B) ∧ ch (fun a k => a = 115) s s1 := by
  obtain ⟨a1, a2, a3, a4⟩ := pb_top h
  unfold dm76
  rw [if_neg a1, if_pos a3, if_pos a3, a4]
  simp only [nx_eq]
  refine ⟨_, rfl, ⟨⟨h.1.1, h.1.2.1, PPr.of (s := s) P (fun k _ => ⟨rfl, rfl⟩) h.1.2.2⟩, h.2.1, h.2.2.1, h.2.2.2.1, ?_, h.2.2.2.2.2.1, BBr.of (s := s) B (fun k hk => ⟨rfl, ?_, rfl⟩) h.2.2.2.2.2.2⟩, (ch.refl _ s).wI rfl⟩
  · rw [sI_wI, if_pos ⟨rfl, rfl⟩, h.2.2.2.2.1]
  · rw [sI_wI, if_neg (by omega)]
set_option maxRecDepth 100000 in
/-- cut back to what waited outside -/
theorem x65 {P1 P0 : List (Int32 × Nat)} (h : PB s (P1 ++ P0) B) : ∃ s1, dm65 (Int32.ofNat P0.length) s = some s1 ∧ PB s1 P0 B ∧ ch (fun a k => a = 110 ∧ k = 2) s s1 := by
  have hl := h.1.2.1
  have h1 := h.1.1
  rw [List.length_append] at hl h1
  have key : ∀ (Q : List (Int32 × Nat)), PPr s (Q ++ P0) → PPr s P0 := by
    intro Q
    induction Q with
    | nil => exact fun z => z
    | cons p Q ih => exact fun z => ih z.2.2
  have h0 := key P1 h.1.2.2
  unfold dm65
  rw [if_neg (fun z => by have := (nlt_iff (b := 0) (by omega) (by omega)).mp z; omega), h1]
  by_cases c : P1.length + P0.length ≤ P0.length
  · rw [if_pos ((nle_iff (by omega) (by omega)).mpr c)]
    exact ⟨s, rfl, ⟨⟨by rw [h1, show P1.length + P0.length = P0.length by omega], by omega, h0⟩, h.2⟩, ch.refl _ s⟩
  · rw [if_neg (fun z => c ((nle_iff (by omega) (by omega)).mp z)), nx_eq]
    exact ⟨_, rfl, ⟨⟨by rw [sI_wI, if_pos ⟨rfl, rfl⟩], by omega, PPr.of (s := s) P0 (fun k _ => ⟨rfl, rfl⟩) h0⟩, h.2.1, h.2.2.1, BBr.of (s := s) B (fun k _ => ⟨rfl, rfl, rfl⟩) h.2.2.2⟩, (ch.refl _ s).wI ⟨rfl, rfl⟩⟩
set_option maxRecDepth 100000 in
/-- a bracket closed -/
theorem x80 {q : Nat × Int32 × Nat} (h : PB s P (q :: B)) : ∃ s1, dm80 s = some s1 ∧ PB s1 P B ∧ ch (fun a k => a = 113 ∧ k = 3) s s1 := by
  obtain ⟨a1, a2, a3, a4⟩ := pb_top h
  have h2 : B.length + 1 ≤ 32 := h.2.2.1
  unfold dm80
  rw [if_neg a1, a2, nx_eq]
  exact ⟨_, rfl, ⟨⟨h.1.1, h.1.2.1, PPr.of (s := s) P (fun k _ => ⟨rfl, rfl⟩) h.1.2.2⟩, by rw [sI_wI, if_pos ⟨rfl, rfl⟩], by omega, BBr.of (s := s) B (fun k _ => ⟨rfl, rfl, rfl⟩) h.2.2.2.2.2.2⟩, (ch.refl _ s).wI ⟨rfl, rfl⟩⟩
set_option maxRecDepth 100000 in
/-- an operator waits -/
theorem x87 {x : Int32} {y : Nat} (h : PB s P B) (h8 : P.length < 128) : ∃ s1, dm87 x (Int32.ofNat y) s = some s1 ∧ PB s1 ((x, y) :: P) B ∧ ch (fun a k => (a = 110 ∧ k = 2) ∨ a = 111 ∨ a = 112) s s1 := by
  have h1 := h.1.1
  have b8 : aB (Int32.ofNat P.length) 128 := aB_of h8 (by omega)
  have j8 : jN (Int32.ofNat P.length) = P.length := jN_of (by omega)
  unfold dm87
  rw [h1, if_neg (fun z => by have := (nle_iff (a := 128) (by omega) (by omega)).mp z; omega), if_pos b8, j8]
  simp only [nx_eq]
  have e1 : sI (wI s 111 P.length x) 110 2 = Int32.ofNat P.length := by rw [sI_wI, if_neg (by omega)]; exact h1
  rw [e1, if_pos b8, j8]
  have e2 : sI (wI (wI s 111 P.length x) 112 P.length (Int32.ofNat y)) 110 2 = Int32.ofNat P.length := by rw [sI_wI, if_neg (by omega)]; exact e1
  rw [e2, ofNat_succ (by omega)]
  refine ⟨_, rfl, ⟨⟨by rw [sI_wI, if_pos ⟨rfl, rfl⟩]; rfl, h8, ?_, ?_, PPr.of (s := s) P (fun k hk => ⟨?_, ?_⟩) h.1.2.2⟩, h.2.1, h.2.2.1, BBr.of (s := s) B (fun k _ => ⟨rfl, rfl, rfl⟩) h.2.2.2⟩, (((ch.refl _ s).wI (by omega)).wI (by omega)).wI (by omega)⟩
  · rw [sI_wI, if_neg (by omega), sI_wI, if_neg (by omega), sI_wI, if_pos ⟨rfl, rfl⟩]
  · rw [sI_wI, if_neg (by omega), sI_wI, if_pos ⟨rfl, rfl⟩]
  · rw [sI_wI, if_neg (by omega), sI_wI, if_neg (by omega), sI_wI, if_neg (by omega)]
  · rw [sI_wI, if_neg (by omega), sI_wI, if_neg (by omega), sI_wI, if_neg (by omega)]
set_option maxRecDepth 100000 in
/-- a bracket opened -/
theorem x117 {x y : Nat} {v : Int32} (h : PB s P B) (h8 : B.length < 32) : ∃ s1, dm117 (Int32.ofNat x) v (Int32.ofNat y) s = some s1 ∧ PB s1 P ((x, v, y) :: B) ∧ ch (fun a k => (a = 113 ∧ k = 3) ∨ a = 114 ∨ a = 115 ∨ a = 116) s s1 := by
  have h1 := h.2.1
  have b8 : aB (Int32.ofNat B.length) 32 := aB_of h8 (by omega)
  have j8 : jN (Int32.ofNat B.length) = B.length := jN_of (by omega)
  unfold dm117
  rw [h1, if_neg (fun z => by have := (nle_iff (a := 32) (by omega) (by omega)).mp z; omega), if_pos b8, j8]
  simp only [nx_eq]
  have e1 : sI (wI s 114 B.length (Int32.ofNat x)) 113 3 = Int32.ofNat B.length := by rw [sI_wI, if_neg (by omega)]; exact h1
  rw [e1, if_pos b8, j8]
  have e2 : sI (wI (wI s 114 B.length (Int32.ofNat x)) 115 B.length v) 113 3 = Int32.ofNat B.length := by rw [sI_wI, if_neg (by omega)]; exact e1
  rw [e2, if_pos b8, j8]
  have e3 : sI (wI (wI (wI s 114 B.length (Int32.ofNat x)) 115 B.length v) 116 B.length (Int32.ofNat y)) 113 3 = Int32.ofNat B.length := by rw [sI_wI, if_neg (by omega)]; exact e2
  rw [e3, ofNat_succ (by omega)]
  refine ⟨_, rfl, ⟨⟨h.1.1, h.1.2.1, PPr.of (s := s) P (fun k _ => ⟨rfl, rfl⟩) h.1.2.2⟩, by rw [sI_wI, if_pos ⟨rfl, rfl⟩]; rfl, h8, ?_, ?_, ?_, BBr.of (s := s) B (fun k hk => ⟨?_, ?_, ?_⟩) h.2.2.2⟩, ((((ch.refl _ s).wI (by omega)).wI (by omega)).wI (by omega)).wI (by omega)⟩
  · rw [sI_wI, if_neg (by omega), sI_wI, if_neg (by omega), sI_wI, if_neg (by omega), sI_wI, if_pos ⟨rfl, rfl⟩]
  · rw [sI_wI, if_neg (by omega), sI_wI, if_neg (by omega), sI_wI, if_pos ⟨rfl, rfl⟩]
  · rw [sI_wI, if_neg (by omega), sI_wI, if_pos ⟨rfl, rfl⟩]
  · rw [sI_wI, if_neg (by omega), sI_wI, if_neg (by omega), sI_wI, if_neg (by omega), sI_wI, if_neg (by omega)]
  · rw [sI_wI, if_neg (by omega), sI_wI, if_neg (by omega), sI_wI, if_neg (by omega), sI_wI, if_neg (by omega)]
  · rw [sI_wI, if_neg (by omega), sI_wI, if_neg (by omega), sI_wI, if_neg (by omega), sI_wI, if_neg (by omega)]
/-- those end that bind at least so much -/
def eF (x : Int32) (base : Nat) : List (Int32 × Nat) → Nat → List (Int32 × Nat) × Nat
  | [], o => ([], o)
  | p :: P, o => if P.length + 1 ≤ base ∨ p.1 < x then (p :: P, o) else eF x base P p.2
set_option maxRecDepth 100000 in
theorem x86l {x : Int32} {base : Nat} (hb : base ≤ 200) : ∀ (P : List (Int32 × Nat)) (n o : Nat) (s : aS), PB s P B → P.length < n → ∃ s1, dm86_2 n (Int32.ofNat base) x (Int32.ofNat o) s = some (Int32.ofNat (eF x base P o).2, s1) ∧ PB s1 (eF x base P o).1 B ∧ ch (fun a k => a = 110 ∧ k = 2) s s1 := by
  intro P
  induction P with
  | nil =>
    intro n o s h hn
    obtain ⟨n, rfl⟩ : ∃ q, n = q + 1 := ⟨n - 1, by omega⟩
    have h1 : sI s 110 2 = Int32.ofNat 0 := h.1.1
    rw [dm86_2, h1, if_pos ((nle_iff (by omega) (by omega)).mpr (by omega))]
    exact ⟨s, rfl, h, ch.refl _ s⟩
  | cons p P ih =>
    intro n o s h hn
    obtain ⟨n, rfl⟩ : ∃ q, n = q + 1 := ⟨n - 1, by omega⟩
    have h1 : sI s 110 2 = Int32.ofNat (P.length + 1) := h.1.1
    have h8 : P.length + 1 ≤ 128 := h.1.2.1
    rw [List.length_cons] at hn
    rw [dm86_2, h1]
    unfold eF
    by_cases c1 : P.length + 1 ≤ base
    · rw [if_pos ((nle_iff (by omega) (by omega)).mpr c1), if_pos (Or.inl c1)]
      exact ⟨s, rfl, h, ch.refl _ s⟩
    · have e1 : Int32.ofNat (P.length + 1) - 1 = Int32.ofNat P.length := by
        rw [ofNat_sub1 (by omega) (by omega)]
        rfl
      rw [if_neg (fun z => c1 ((nle_iff (by omega) (by omega)).mp z)), if_neg (fun z => by have := (nle_iff (b := 0) (by omega) (by omega)).mp z; omega), e1, if_pos (aB_of (by omega) (by omega)), jN_of (by omega), h.1.2.2.1]
      by_cases c2 : p.1 < x
      · rw [if_pos c2, if_pos (Or.inr c2)]
        exact ⟨s, rfl, h, ch.refl _ s⟩
      · rw [if_neg c2, if_neg (fun z => z.elim c1 c2)]
        simp only [nx_eq]
        have e2 : sI (wI s 110 2 (Int32.ofNat P.length)) 110 2 = Int32.ofNat P.length := by rw [sI_wI, if_pos ⟨rfl, rfl⟩]
        have e3 : sI (wI s 110 2 (Int32.ofNat P.length)) 112 P.length = Int32.ofNat p.2 := by rw [sI_wI, if_neg (by omega)]; exact h.1.2.2.2.1
        rw [e2, if_pos (aB_of (by omega) (by omega)), jN_of (by omega), e3]
        have g : ch (fun a k => a = 110 ∧ k = 2) s (wI s 110 2 (Int32.ofNat P.length)) := (ch.refl _ s).wI ⟨rfl, rfl⟩
        obtain ⟨s1, k1, k2, k3⟩ := ih n p.2 (wI s 110 2 (Int32.ofNat P.length)) ⟨⟨e2, by omega, PPr.of (s := s) P (fun k _ => ⟨rfl, rfl⟩) h.1.2.2.2.2⟩, h.2.1, h.2.2.1, BBr.of (s := s) B (fun k _ => ⟨rfl, rfl, rfl⟩) h.2.2.2⟩ (by omega)
        exact ⟨s1, k1, k2, g.trans k3⟩
set_option maxRecDepth 100000 in
theorem x86 {x : Int32} {base o : Nat} (h : PB s P B) (hb : base ≤ 200) : ∃ s1, dm86 (Int32.ofNat base) x (Int32.ofNat o) s = some (Int32.ofNat (eF x base P o).2, s1) ∧ PB s1 (eF x base P o).1 B ∧ ch (fun a k => a = 110 ∧ k = 2) s s1 := x86l hb P 5000 o s h (by have := h.1.2.1; omega)
end XX
