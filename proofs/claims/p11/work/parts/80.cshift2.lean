/-! shiftOn: all nodes of a tree -/
def onC (x y : Int32) (d : Nd) : Prop := isRf d ∧ (d 2 = x ∨ (d 2 = -1 ∧ y ≠ 0))
set_option maxRecDepth 100000 in
noncomputable def shF (x y t k n : Int32) (d : Nd) : Nd := if b01 (onC x y d) = 0 then d else shN t k n d
set_option maxRecDepth 100000 in
noncomputable def shG (x y t k n : Int32) (d : Nd) (c : Int32) : Int32 := if b01 (onC x y d) = 0 then c else shK t k n d c
set_option maxRecDepth 100000 in
noncomputable def scC (x y t k n : Int32) (F : Nat → Nd) : Nat → Nat → Int32 → Int32
  | 0, _, c => c
  | q + 1, j, c => scC x y t k n F q (j + 1) (shG x y t k n (F j) c)
set_option maxRecDepth 100000 in
theorem d134l {b N : Nat} {x y t k n : Int32} {F : Nat → Nd} : ∀ (q j z : Nat) (c : Int32) (s : aS), j + q = N → q < z → TF9 s b N (fun i => if i < j then shF x y t k n (F i) else F i) → ∃ s', dm134_4 z b x y t k n c (Int32.ofNat j) s = some (scC x y t k n F q j c, s') ∧ TF9 s' b N (fun i => shF x y t k n (F i)) ∧ ch (fun a _ => a = b + 1) s s' := by
  intro q
  induction q with
  | zero =>
    intro j z c s hj hz h
    obtain ⟨z, rfl⟩ : ∃ a, z = a + 1 := ⟨z - 1, by omega⟩
    have h8 := h.2.1
    rw [dm134_4, h.1, if_pos (by rw [iLe, iOfNat (by omega), iOfNat (by omega)]; omega)]
    exact ⟨s, rfl, h.cg fun i hi w hw => by show (if i < j then shF x y t k n (F i) else F i) w = _; rw [if_pos (by omega)], ch.refl _ s⟩
  | succ q ih =>
    intro j z c s hj hz h
    obtain ⟨z, rfl⟩ : ∃ a, z = a + 1 := ⟨z - 1, by omega⟩
    have h8 := h.2.1
    have hr : CR s b j (F j) := by
      have := h.row (i := j) (by omega)
      have : CR s b j (if j < j then shF x y t k n (F j) else F j) := this
      rw [if_neg (by omega)] at this
      exact this
    have f2 : dm57 b (Int32.ofNat j) 2 s = some (F j 2) := CR.f (w := 2) h.1 h8 (by omega) hr (by omega)
    have next : ∀ (s1 : aS) (c1 : Int32), c1 = shG x y t k n (F j) c → TF9 s1 b N (fun i => if i = j then shF x y t k n (F j) else if i < j then shF x y t k n (F i) else F i) → ch (fun a _ => a = b + 1) s s1 → ∃ s', dm134_4 z b x y t k n c1 (Int32.ofNat (j + 1)) s1 = some (scC x y t k n F q (j + 1) (shG x y t k n (F j) c), s') ∧ TF9 s' b N (fun i => shF x y t k n (F i)) ∧ ch (fun a _ => a = b + 1) s s' := by
      intro s1 c1 hc1 t1 cc1
      subst hc1
      obtain ⟨s', a1, a2, a3⟩ := ih (j + 1) z (shG x y t k n (F j) c) s1 (by omega) (by omega) (t1.cg fun i hi w hw => by
        show (if i = j then shF x y t k n (F j) else if i < j then shF x y t k n (F i) else F i) w = (if i < j + 1 then shF x y t k n (F i) else F i) w
        by_cases e : i = j
        · subst e
          rw [if_pos rfl, if_pos (by omega)]
        · rw [if_neg e]
          by_cases e2 : i < j
          · rw [if_pos e2, if_pos (by omega)]
          · rw [if_neg e2, if_neg (by omega)])
      exact ⟨s', a1, a2, cc1.trans a3⟩
    have no : ¬ onC x y (F j) → ∃ s', dm134_48 (dm134_4 z) b x y t k n c (Int32.ofNat j) s = some (scC x y t k n F q (j + 1) (shG x y t k n (F j) c), s') ∧ TF9 s' b N (fun i => shF x y t k n (F i)) ∧ ch (fun a _ => a = b + 1) s s' := by
      intro hq
      unfold dm134_48
      rw [ofNat_succ (by omega)]
      refine next s c (by unfold shG; rw [b01_f hq, if_pos rfl]) (h.cg fun i hi w hw => ?_) (ch.refl _ s)
      show (if i < j then shF x y t k n (F i) else F i) w = (if i = j then shF x y t k n (F j) else if i < j then shF x y t k n (F i) else F i) w
      by_cases e : i = j
      · subst e
        rw [if_neg (by omega), if_pos rfl]
        unfold shF
        rw [b01_f hq, if_pos rfl]
      · rw [if_neg e]
    have yes : onC x y (F j) → ∃ s', dm134_25 (dm134_4 z) b x y t k n c (Int32.ofNat j) s = some (scC x y t k n F q (j + 1) (shG x y t k n (F j) c), s') ∧ TF9 s' b N (fun i => shF x y t k n (F i)) ∧ ch (fun a _ => a = b + 1) s s' := by
      intro hq
      obtain ⟨s1, g1, g2, g3⟩ := d134n (x := x) (y := y) (t := t) (k := k) (n := n) (c := c) (k4 := dm134_4 z) h.1 h8 (by omega : j < N) hr
      rw [g1]
      refine next s1 _ (by unfold shG; rw [b01_t hq, if_neg (by decide)]) (h.up (g := shF x y t k n (F j)) (by omega) (fun w hw => ?_) g3) (g3.mono fun a q z => z.1)
      unfold shF
      rw [b01_t hq, if_neg (by decide)]
      exact g2 w hw
    rw [dm134_4, h.1, if_neg (by rw [iLe, iOfNat (by omega), iOfNat (by omega)]; omega), f2, d129 h.1 h8 (by omega) hr]
    simp only [bu_some]
    show ∃ s', _ = some (scC x y t k n F q (j + 1) (shG x y t k n (F j) c), s') ∧ _
    by_cases hf : isRf (F j)
    · rw [b01_t hf, if_neg (by decide)]
      by_cases c1 : F j 2 = x
      · rw [if_pos c1]
        exact yes ⟨hf, Or.inl c1⟩
      · rw [if_neg c1]
        by_cases c2 : F j 2 = -1
        · rw [if_pos c2]
          by_cases c3 : y = 0
          · rw [if_pos c3]
            refine no fun z => ?_
            rcases z.2 with q | q
            · exact c1 q
            · exact q.2 c3
          · rw [if_neg c3]
            exact yes ⟨hf, Or.inr ⟨c2, c3⟩⟩
        · rw [if_neg c2]
          refine no fun z => ?_
          rcases z.2 with q | q
          · exact c1 q
          · exact c2 q.1
    · rw [b01_f hf, if_pos rfl]
      exact no fun z => hf z.1
set_option maxRecDepth 100000 in
theorem d134 {s : aS} {b : Nat} {L : List Nd} {x y t k n : Int32} (h : TC s b L) : ∃ s', dm134 b x y t k n s = some (scC x y t k n (fun i => L.getD i (fun _ => 0)) L.length 0 0, s') ∧ TC s' b (L.map (shF x y t k n)) ∧ ch (fun a _ => a = b + 1) s s' := by
  have h8 := h.2.1
  obtain ⟨s', g1, g2, g3⟩ := d134l (b := b) (x := x) (y := y) (t := t) (k := k) (n := n) (F := fun i => L.getD i (fun _ => 0)) L.length 0 5000 0 s (by omega) (by omega) (h.f.cg fun i hi w hw => by
    show L.getD i (fun _ => 0) w = (if i < 0 then _ else L.getD i (fun _ => 0)) w
    rw [if_neg (by omega)])
  refine ⟨s', g1, g2.c (by rw [List.length_map]) fun i hi w hw => ?_, g3⟩
  rw [List.length_map] at hi
  show shF x y t k n (L.getD i (fun _ => 0)) w = _
  rw [List.getElem_map, List.getD, List.getElem?_eq_getElem hi]
  rfl
