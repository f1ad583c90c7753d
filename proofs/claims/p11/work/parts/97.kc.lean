/-! what waits in the reference, as FormulaTrees holds it -/
def caF (f : Fw) : Int32 := if f.1 = 7 then 0 else if f.1 = 10 then 1 else 2
def hdC (f : Fw) : NN := (f.2.1.1, setN f.2.1.2.1 1 (caF f), f.2.1.2.2)
def frC (f : Fw) : List NN := if f.1 = 100 then [] else hdC f :: f.2.2.1
def flC : List Fw → List NN
  | [] => []
  | f :: F => flC F ++ frC f
def pO : List Fw → List (Int32 × Nat)
  | [] => []
  | f :: F => if f.1 = 100 ∨ f.1 = 7 then pO F else (rkM f.1, (flC F).length) :: pO F
def bO : List Fw → List (Nat × Int32 × Nat)
  | [] => []
  | f :: F => if f.1 = 100 then ((flC F).length, -1, (pO F).length) :: bO F else if f.1 = 7 then ((flC F).length, Int32.ofNat f.2.2.2.length, (pO F).length) :: bO F else bO F
set_option maxRecDepth 100000 in
theorem flC_len : ∀ F, (flC F).length = (fl F).length
  | [] => rfl
  | f :: F => by
    show (flC F ++ frC f).length = (fl F ++ frl f).length
    rw [List.length_append, List.length_append, flC_len F]
    unfold frC frl
    split <;> rfl
set_option maxRecDepth 100000 in
theorem bO_len : ∀ F, (bO F).length = nO F
  | [] => rfl
  | f :: F => by
    have ih := bO_len F
    show (bO (f :: F)).length = nO F + (if f.1 = 100 ∨ f.1 = 7 then 1 else 0)
    unfold bO
    by_cases c1 : f.1 = 100
    · rw [if_pos c1, if_pos (Or.inl c1), List.length_cons, ih]
    · rw [if_neg c1]
      by_cases c2 : f.1 = 7
      · rw [if_pos c2, if_pos (Or.inr c2), List.length_cons, ih]
      · rw [if_neg c2, if_neg (fun z => z.elim c1 c2), ih]
        rfl
set_option maxRecDepth 100000 in
theorem pO_len : ∀ F, (pO F).length ≤ (flC F).length
  | [] => Nat.le_refl _
  | f :: F => by
    have ih := pO_len F
    show (pO (f :: F)).length ≤ (flC F ++ frC f).length
    rw [List.length_append]
    unfold pO
    by_cases c : f.1 = 100 ∨ f.1 = 7
    · rw [if_pos c]
      omega
    · rw [if_neg c, List.length_cons]
      unfold frC
      rw [if_neg (fun z => c (Or.inl z)), List.length_cons]
      omega
set_option maxRecDepth 100000 in
theorem bS_le : ∀ F, bS (bO F) ≤ (pO F).length
  | [] => Nat.le_refl _
  | f :: F => by
    have ih := bS_le F
    have eb : bO (f :: F) = if f.1 = 100 then ((flC F).length, -1, (pO F).length) :: bO F else if f.1 = 7 then ((flC F).length, Int32.ofNat f.2.2.2.length, (pO F).length) :: bO F else bO F := rfl
    have ep : pO (f :: F) = if f.1 = 100 ∨ f.1 = 7 then pO F else (rkM f.1, (flC F).length) :: pO F := rfl
    rw [eb, ep]
    by_cases c1 : f.1 = 100
    · rw [if_pos c1, if_pos (Or.inl c1)]
      exact Nat.le_refl _
    · rw [if_neg c1]
      by_cases c2 : f.1 = 7
      · rw [if_pos c2, if_pos (Or.inr c2)]
        exact Nat.le_refl _
      · rw [if_neg c2, if_neg (fun z => z.elim c1 c2), List.length_cons]
        omega
set_option maxRecDepth 100000 in
/-- operators of the reference: their node as it is held -/
theorem up_hd {ns : List (List Int32)} {f : Fw} (h : gdF ns f) (hn : ¬ (f.1 = 100 ∨ f.1 = 7)) : upN f = hdC f := by
  rcases h with h | ⟨hk, -, -, -, -, h10, hB, -, -⟩
  · exact absurd (Or.inl h) hn
  · unfold upN hdC caF
    rw [if_neg (fun z => hn (Or.inr z))]
    rcases hk with q | q | q
    · exact absurd (Or.inr q) hn
    · rw [if_pos q, h10 q]
      rfl
    · have n10 : ¬ f.1 = 10 := fun z => by
        rw [z] at q
        unfold isB at q
        exact absurd q.1 (by decide)
      rw [if_neg n10, hB q]
      rfl
set_option maxRecDepth 100000 in
theorem rd_fl {ns : List (List Int32)} {x : Int32} : ∀ (F : List Fw) (cur : List NN), (∀ f ∈ F, gdF ns f) → flC (rdF x F cur).1 ++ (rdF x F cur).2 = flC F ++ cur
  | [], cur, _ => rfl
  | f :: F, cur, h => by
    unfold rdF
    by_cases c : f.1 = 100 ∨ f.1 = 7 ∨ rkM f.1 < x
    · rw [if_pos c]
    · rw [if_neg c, rd_fl F _ (fun g hg => h g (List.mem_cons_of_mem _ hg))]
      have c1 : ¬ (f.1 = 100 ∨ f.1 = 7) := fun z => c (z.elim Or.inl (fun q => Or.inr (Or.inl q)))
      show flC F ++ upN f :: (f.2.2.1 ++ cur) = (flC F ++ frC f) ++ cur
      unfold frC
      rw [if_neg (fun z => c (Or.inl z)), up_hd (h f List.mem_cons_self) c1, List.append_assoc]
      rfl
set_option maxRecDepth 100000 in
theorem rd_bO {x : Int32} : ∀ (F : List Fw) (cur : List NN), bO (rdF x F cur).1 = bO F
  | [], cur => rfl
  | f :: F, cur => by
    unfold rdF
    by_cases c : f.1 = 100 ∨ f.1 = 7 ∨ rkM f.1 < x
    · rw [if_pos c]
    · rw [if_neg c, rd_bO F _]
      show bO F = bO (f :: F)
      rw [bO, if_neg (fun z => c (Or.inl z)), if_neg (fun z => c (Or.inr (Or.inl z)))]
set_option maxRecDepth 100000 in
theorem eF_0 {x : Int32} {o : Nat} (P : List (Int32 × Nat)) : eF x P.length P o = (P, o) := by
  cases P with
  | nil => rfl
  | cons p P =>
    unfold eF
    rw [if_pos (Or.inl (by rw [List.length_cons]; omega))]
set_option maxRecDepth 100000 in
theorem rd_pO {x : Int32} : ∀ (F : List Fw) (cur : List NN), eF x (bS (bO F)) (pO F) (flC F).length = (pO (rdF x F cur).1, (flC (rdF x F cur).1).length)
  | [], cur => rfl
  | f :: F, cur => by
    unfold rdF
    by_cases c0 : f.1 = 100 ∨ f.1 = 7
    · have c : f.1 = 100 ∨ f.1 = 7 ∨ rkM f.1 < x := c0.elim Or.inl (fun q => Or.inr (Or.inl q))
      have e : bS (bO (f :: F)) = (pO F).length := by
        rw [bO]
        by_cases c1 : f.1 = 100
        · rw [if_pos c1]
          rfl
        · rw [if_neg c1, if_pos (c0.resolve_left c1)]
          rfl
      have ep : pO (f :: F) = pO F := by rw [pO, if_pos c0]
      rw [if_pos c, e, ep, eF_0]
    · have eb : bO (f :: F) = bO F := by rw [bO, if_neg (fun z => c0 (Or.inl z)), if_neg (fun z => c0 (Or.inr z))]
      have ep : pO (f :: F) = (rkM f.1, (flC F).length) :: pO F := by rw [pO, if_neg c0]
      have hb := bS_le F
      by_cases c2 : rkM f.1 < x
      · rw [if_pos (Or.inr (Or.inr c2)), eb, ep, eF, if_pos (Or.inr c2)]
      · rw [if_neg (fun z => z.elim (fun q => c0 (Or.inl q)) (fun z => z.elim (fun q => c0 (Or.inr q)) c2)), eb, ep, eF, if_neg (fun z => z.elim (fun q => by omega) c2)]
        exact rd_pO F _
set_option maxRecDepth 100000 in
theorem pO_cut {x : Int32} : ∀ (F : List Fw) (cur : List NN), ∃ P1, pO F = P1 ++ pO (rdF x F cur).1
  | [], cur => ⟨[], rfl⟩
  | f :: F, cur => by
    unfold rdF
    by_cases c : f.1 = 100 ∨ f.1 = 7 ∨ rkM f.1 < x
    · rw [if_pos c]
      exact ⟨[], rfl⟩
    · rw [if_neg c]
      obtain ⟨P1, e⟩ := pO_cut (x := x) F (upN f :: (f.2.2.1 ++ cur))
      refine ⟨(rkM f.1, (flC F).length) :: P1, ?_⟩
      rw [pO, if_neg (fun z => c (z.elim Or.inl (fun q => Or.inr (Or.inl q)))), e]
      rfl
set_option maxRecDepth 100000 in
theorem pl_1 (k c v : Int32) : setN (plF k c) 1 v = plF k v := by
  funext w
  unfold setN plF
  by_cases h1 : w = 1
  · subst h1
    rfl
  · rw [if_neg h1]
    by_cases h0 : w = 0
    · rw [if_pos h0, if_pos h0]
    · rw [if_neg h0, if_neg h0, if_neg h1, if_neg h1]
set_option maxRecDepth 100000 in
theorem bA_top {ns : List (List Int32)} : ∀ F, (∀ f ∈ F, gdF ns f) → (bA (bO F) = -1 ∧ inM F ≠ 7) ∨ (bA (bO F) ≠ -1 ∧ inM F = 7)
  | [], _ => Or.inl ⟨rfl, by decide⟩
  | f :: F, h => by
    unfold bO inM
    by_cases c1 : f.1 = 100
    · rw [if_pos c1, if_pos (Or.inl c1), c1]
      exact Or.inl ⟨rfl, by decide⟩
    · rw [if_neg c1]
      by_cases c2 : f.1 = 7
      · rw [if_pos c2, if_pos (Or.inr c2)]
        refine Or.inr ⟨fun q => ?_, c2⟩
        have hl : f.2.2.2.length ≤ 29 := by
          rcases h f List.mem_cons_self with z | z
          · exact absurd z c1
          · exact z.2.2.2.2.2.2.2.1
        have q : Int32.ofNat f.2.2.2.length = -1 := q
        rw [iEq, iOfNat (by omega)] at q
        have e1 : (-1 : Int32).toInt = -1 := rfl
        omega
      · rw [if_neg c2, if_neg (fun z => z.elim c1 c2)]
        exact bA_top F (fun g hg => h g (List.mem_cons_of_mem _ hg))
set_option maxRecDepth 100000 in
theorem rd_ne {x : Int32} : ∀ (F : List Fw) (cur : List NN), cur ≠ [] → (rdF x F cur).2 ≠ []
  | [], cur, h => h
  | f :: F, cur, h => by
    unfold rdF
    by_cases c : f.1 = 100 ∨ f.1 = 7 ∨ rkM f.1 < x
    · rw [if_pos c]
      exact h
    · rw [if_neg c]
      exact rd_ne F _ (fun z => by cases z)
