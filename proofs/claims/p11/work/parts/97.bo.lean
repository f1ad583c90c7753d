/-! a new operand, new things that wait, in the reference -/
def newA (e m : Nat) (a k : Nat) : Prop := ((128 ≤ a ∧ a ≤ 138) ∧ k = 1024 + m) ∨ ((140 ≤ a ∧ a ≤ 142) ∧ k = m) ∨ (a = 139 ∧ 2048 + e ≤ k) ∨ 143 ≤ a ∨ a < 121
set_option maxRecDepth 100000 in
theorem PZ.new {s s' : aS} {e m : Nat} {I : List Nat} (h : ch (newA e m) s s') (h1 : ∀ k ∈ I, k ≠ m) : PZ s s' e I := by
  refine ⟨fun q hq => h.i ?_, fun k hk => ⟨⟨fun w hw => h.i ?_, h.i ?_⟩, h.i ?_, h.i ?_⟩⟩
  all_goals
    unfold newA
    first
      | omega
      | (have := h1 k hk; omega)
set_option maxRecDepth 100000 in
theorem nodup_ins {A B : List Nat} {x : Nat} (h : (A ++ B).Nodup) (hx : x ∉ A ++ B) : (A ++ x :: B).Nodup := by
  rw [List.nodup_append] at h ⊢
  refine ⟨h.1, ?_, fun a ha b hb => ?_⟩
  · rw [List.nodup_cons]
    exact ⟨fun q => hx (List.mem_append_right _ q), h.2.1⟩
  · rcases List.mem_cons.mp hb with q | q
    · intro z
      exact hx (List.mem_append_left _ (by rw [← q, ← z]; exact ha))
    · exact h.2.2 a ha b q
set_option maxRecDepth 100000 in
theorem GM.fresh {s : aS} {r : Nat → Int32} {e m : Nat} {F : List Fw} {cur : List NN} (h : GM s r e F cur) (hm : (fl F ++ cur).length = m) : (m ∉ idL (fl F ++ cur)) ∧ (∀ k ∈ idL (fl F), k ≠ m) ∧ ∀ k ∈ idL cur, k ≠ m := by
  have a := h.2.2.2.2.2.2.1.2
  refine ⟨fun q => ?_, fun k hk q => ?_, fun k hk q => ?_⟩
  · have := a m q
    omega
  · have := a k (by rw [idL_ap]; exact List.mem_append_left _ hk)
    omega
  · have := a k (by rw [idL_ap]; exact List.mem_append_right _ hk)
    omega
set_option maxRecDepth 100000 in
theorem GM.leaf {s s' : aS} {r r' : Nat → Int32} {e e' m : Nat} {F : List Fw} {n : NN} (h : GM s r e F []) (hm : (fl F).length = m) (h8 : m < 128) (hid : n.1 = m) (hc : ch (newA e m) s s') (hst : ∀ q, sI s' 145 q = sI s 145 q ∧ sI s' 146 q = sI s 146 q) (htr : ∀ q, q < nT F → sI s' 144 q = sI s 144 q) (hNR : NR s' e' n) (hk : n.2.1 1 = 0) (h0 : sI s' 140 m = -1) (h2 : sI s' 142 m = -1) (h4 : sI s' 144 (nT F) = Int32.ofNat m) (he : e ≤ e') (h21 : r' 21 = Int32.ofNat (m + 1)) (h29 : r' 29 = Int32.ofNat (nT F + 1)) (h32 : r' 32 = r 32) (h33 : r' 33 = r 33) : GM s' r' e' F [n] := by
  obtain ⟨q1, q2, -⟩ := h.fresh (m := m) (by rw [List.append_nil]; exact hm)
  obtain ⟨a1, a2, a3, a4, a5, a6, a7, a8⟩ := h
  have hnF : (idL (fl F)).Nodup := by
    have := a7.1
    rw [List.append_nil] at this
    exact this
  have el : (fl F ++ [n]).length = m + 1 := by rw [List.length_append, hm]; rfl
  rw [List.append_nil] at q1
  have ei : idL (fl F ++ [n]) = idL (fl F) ++ m :: [] := by rw [idL_ap, ← hid]; rfl
  refine ⟨⟨by rw [el]; exact h21, by rw [el]; omega⟩, h32.trans a2, ⟨h33.trans a3.1, a3.2⟩, WS.of F a4 (fun q _ => hst q), TS.of F a5 htr, FrAll.of a6 hnF (PZ.new hc q2) he, ⟨?_, ?_⟩, Or.inr ⟨m, ⟨[], [], by rw [hid], by omega, hNR, ?_, hk, rfl⟩, h2, h4, h29⟩⟩
  · rw [ei]
    exact nodup_ins (by rw [List.append_nil]; exact hnF) (by rw [List.append_nil]; exact q1)
  · rw [ei, el]
    intro k hk
    rcases List.mem_append.mp hk with z | z
    · have := a7.2 k (by rw [List.append_nil]; exact z)
      rw [List.append_nil, hm] at this
      omega
    · have : k = m := List.mem_singleton.mp z
      omega
  · rw [hid]
    exact h0
set_option maxRecDepth 100000 in
theorem GM.hnd {s s' : aS} {r r' : Nat → Int32} {e e' m : Nat} {F : List Fw} {n : NN} {x : Int32} (h : GM s r e F []) (hm : (fl F).length = m) (h8 : m < 128) (hid : n.1 = m) (hx : x = 7 ∨ x = 10) (hx0 : n.2.1 0 = x) (hO : x = 7 → nO F < 32) (hc : ch (newA e m) s s') (hst : ∀ q, q < F.length → sI s' 145 q = sI s 145 q ∧ sI s' 146 q = sI s 146 q) (h5 : sI s' 145 F.length = x) (h6 : sI s' 146 F.length = Int32.ofNat m) (htr : ∀ q, q < nT F → sI s' 144 q = sI s 144 q) (hNR : NR s' e' n) (hk : n.2.1 1 = 0) (h0 : sI s' 140 m = -1) (h2 : sI s' 142 m = -1) (he : e ≤ e') (h21 : r' 21 = Int32.ofNat (m + 1)) (h29 : r' 29 = r 29) (h32 : r' 32 = Int32.ofNat (F.length + 1)) (h33 : r' 33 = Int32.ofNat (nO ((x, n, [], []) :: F))) : GM s' r' e' ((x, n, [], []) :: F) [] := by
  obtain ⟨q1, q2, -⟩ := h.fresh (m := m) (by rw [List.append_nil]; exact hm)
  obtain ⟨a1, a2, a3, a4, a5, a6, a7, a8⟩ := h
  have n100 : x ≠ 100 := by rcases hx with q | q <;> rw [q] <;> decide
  have nB : ¬ isB x := by rcases hx with q | q <;> rw [q] <;> unfold isB <;> decide
  have hnF : (idL (fl F)).Nodup := by
    have := a7.1
    rw [List.append_nil] at this
    exact this
  have efl : fl ((x, n, [], []) :: F) = fl F ++ [n] := fl_c n100
  have el : (fl ((x, n, [], []) :: F) ++ []).length = m + 1 := by rw [efl, List.append_nil, List.length_append, hm]; rfl
  rw [List.append_nil] at q1
  have ei : idL (fl ((x, n, [], []) :: F) ++ []) = idL (fl F) ++ m :: [] := by rw [efl, List.append_nil, idL_ap, ← hid]; rfl
  have enT : nT ((x, n, [], []) :: F) = nT F := by
    show nT F + (if b01 (isB x) = 0 then 0 else 1) = nT F
    rw [if_pos (b01_ne.mpr nB)]
    rfl
  have hO2 : nO ((x, n, [], []) :: F) ≤ 32 := by
    show nO F + (if x = 100 ∨ x = 7 then 1 else 0) ≤ 32
    by_cases q : x = 7
    · rw [if_pos (Or.inr q)]
      have := hO q
      omega
    · rw [if_neg (by rintro (z | z); exact n100 z; exact q z)]
      exact a3.2
  have c8 : r 29 = Int32.ofNat (nT F) := by
    rcases a8 with ⟨-, q⟩ | ⟨c, q, -⟩
    · exact q
    · have q : ([c] : List Nat) = [] := q
      cases q
  refine ⟨⟨by rw [el]; exact h21, by rw [el]; omega⟩, h32, ⟨h33, hO2⟩, ⟨h5, fun _ => by rw [h6, ← hid], WS.of F a4 hst⟩, ⟨fun z => absurd z nB, TS.of F a5 htr⟩, ?_, ⟨?_, ?_⟩, Or.inl ⟨rfl, by rw [enT]; exact h29.trans c8⟩⟩
  · intro f hf
    rcases List.mem_cons.mp hf with q | q
    · subst q
      refine Or.inr ⟨n100, hx0, by show n.1 < 128; omega, hNR, rfl, by show sI s' 142 n.1 = -1; rw [hid]; exact h2, ?_⟩
      rcases hx with q | q
      · exact Or.inl ⟨q, hk, by show sI s' 140 n.1 = -1; rw [hid]; exact h0, fun ks q z => by cases ks <;> cases z⟩
      · exact Or.inr (Or.inl ⟨q, hk, by show sI s' 140 n.1 = -1; rw [hid]; exact h0, rfl, rfl⟩)
    · exact FrAll.of a6 hnF (PZ.new hc q2) he f q
  · rw [ei]
    exact nodup_ins (by rw [List.append_nil]; exact hnF) (by rw [List.append_nil]; exact q1)
  · rw [ei, el]
    intro k hk
    rcases List.mem_append.mp hk with z | z
    · have := a7.2 k (by rw [List.append_nil]; exact z)
      rw [List.append_nil, hm] at this
      omega
    · have : k = m := List.mem_singleton.mp z
      omega
set_option maxRecDepth 100000 in
/-- a ( that waits -/
theorem GM.hop {s : aS} {r : Nat → Int32} {e : Nat} {F : List Fw} {n : NN} (h : GM s r e F []) (hO : nO F < 32) : GM (wI (wI s 145 F.length 100) 146 F.length (-1)) (setN (setN r 32 (Int32.ofNat (F.length + 1))) 33 (Int32.ofNat (nO F + 1))) e ((100, n, [], []) :: F) [] := by
  obtain ⟨a1, a2, a3, a4, a5, a6, a7, a8⟩ := h
  have nB : ¬ isB 100 := by unfold isB; decide
  have efl : fl ((100, n, [], []) :: F) = fl F := by
    show fl F ++ frl (100, n, [], []) = fl F
    have : frl (100, n, [], []) = [] := if_pos rfl
    rw [this, List.append_nil]
  have enT : nT ((100, n, [], []) :: F) = nT F := by
    show nT F + (if b01 (isB 100) = 0 then 0 else 1) = nT F
    rw [if_pos (b01_ne.mpr nB)]
    rfl
  have hnF : (idL (fl F)).Nodup := by
    have := a7.1
    rw [List.append_nil] at this
    exact this
  have pz : PZ s (wI (wI s 145 F.length 100) 146 F.length (-1)) e (idL (fl F)) := (PZ.st (by decide)).trans (PZ.st (by decide))
  have c8 : r 29 = Int32.ofNat (nT F) := by
    rcases a8 with ⟨-, q⟩ | ⟨c, q, -⟩
    · exact q
    · have q : ([c] : List Nat) = [] := q
      cases q
  refine ⟨by rw [efl]; exact a1, rfl, ⟨rfl, hO⟩, ⟨?_, fun q => absurd rfl q, WS.of F a4 (fun q hq => ⟨?_, ?_⟩)⟩, ⟨fun z => absurd z nB, TS.of F a5 (fun q hq => ?_)⟩, ?_, by rw [efl]; exact a7, Or.inl ⟨rfl, by rw [enT]; exact c8⟩⟩
  · rw [sI_wI, if_neg (by omega), sI_wI, if_pos ⟨rfl, rfl⟩]
  · rw [sI_wI, if_neg (by omega), sI_wI, if_neg (by omega)]
  · rw [sI_wI, if_neg (by omega), sI_wI, if_neg (by omega)]
  · rw [sI_wI, if_neg (by omega), sI_wI, if_neg (by omega)]
  · intro f hf
    rcases List.mem_cons.mp hf with q | q
    · subst q
      exact Or.inl ⟨rfl, rfl, rfl⟩
    · exact FrAll.of a6 hnF pz (Nat.le_refl _) f q
set_option maxRecDepth 100000 in
/-- an operator that waits for its second operand -/
theorem GM.bin {s s' : aS} {r r' : Nat → Int32} {e m : Nat} {F : List Fw} {cur : List NN} {n : NN} {x : Int32} (h : GM s r e F cur) (hcur : cur ≠ []) (hm : (fl F ++ cur).length = m) (h8 : m < 128) (hid : n.1 = m) (hx : isB x) (hx0 : n.2.1 0 = x) (hc : ch (newA e m) s s') (hst : ∀ q, q < F.length → sI s' 145 q = sI s 145 q ∧ sI s' 146 q = sI s 146 q) (h5 : sI s' 145 F.length = x) (h6 : sI s' 146 F.length = Int32.ofNat m) (htr : ∀ q, sI s' 144 q = sI s 144 q) (hNR : NR s' e n) (hk : n.2.1 1 = 0) (h0 : sI s' 140 m = -1) (h2 : sI s' 142 m = -1) (h21 : r' 21 = Int32.ofNat (m + 1)) (h29 : r' 29 = r 29) (h32 : r' 32 = Int32.ofNat (F.length + 1)) (h33 : r' 33 = r 33) : ∃ c, GM s' r' e ((x, n, cur, [c]) :: F) [] := by
  obtain ⟨q1, q2, q3⟩ := h.fresh hm
  obtain ⟨a1, a2, a3, a4, a5, a6, a7, a8⟩ := h
  obtain ⟨c, c1, c2, c3, c4⟩ := a8.resolve_left (fun q => hcur q.1)
  have n100 : x ≠ 100 := fun q => by rw [q] at hx; unfold isB at hx; exact absurd hx (by decide)
  have n7 : x ≠ 7 := fun q => by rw [q] at hx; unfold isB at hx; exact absurd hx (by decide)
  have hnn := a7.1
  rw [idL_ap, List.nodup_append] at hnn
  have efl : fl ((x, n, cur, [c]) :: F) = fl F ++ (n :: cur) := fl_c n100
  have el : (fl ((x, n, cur, [c]) :: F) ++ []).length = m + 1 := by
    rw [efl, List.append_nil, ← hm]
    simp only [List.length_append, List.length_cons]
    omega
  have ei : idL (fl ((x, n, cur, [c]) :: F) ++ []) = idL (fl F) ++ m :: idL cur := by rw [efl, List.append_nil, idL_ap, ← hid]; rfl
  have enT : nT ((x, n, cur, [c]) :: F) = nT F + 1 := by
    show nT F + (if b01 (isB x) = 0 then 0 else 1) = nT F + 1
    rw [if_neg (fun q => b01_ne.mp q hx)]
  have enO : nO ((x, n, cur, [c]) :: F) = nO F := by
    show nO F + (if x = 100 ∨ x = 7 then 1 else 0) = nO F
    rw [if_neg (by rintro (z | z); exact n100 z; exact n7 z)]
    rfl
  have hcc : c ≠ m := q3 c (HF.sub _ _ c1 c List.mem_cons_self)
  refine ⟨c, ⟨by rw [el]; exact h21, by rw [el]; omega⟩, h32, ⟨by rw [enO]; exact h33.trans a3.1, by rw [enO]; exact a3.2⟩, ⟨h5, fun _ => by rw [h6, ← hid], WS.of F a4 hst⟩, ⟨fun _ c' z => ?_, TS.of F a5 (fun q _ => htr q)⟩, ?_, ⟨?_, ?_⟩, Or.inl ⟨rfl, by rw [enT]; exact h29.trans c4⟩⟩
  · have z : [c] = [c'] := z
    cases z
    rw [htr]
    exact c3
  · intro f hf
    rcases List.mem_cons.mp hf with q | q
    · subst q
      refine Or.inr ⟨n100, hx0, by show n.1 < 128; omega, hNR, (PZ.new hc q3).hf (Nat.le_refl _) c1 hnn.2.1, by show sI s' 142 n.1 = -1; rw [hid]; exact h2, Or.inr (Or.inr ⟨hx, hk, by show sI s' 140 n.1 = -1; rw [hid]; exact h0, c, rfl, ?_⟩)⟩
      exact (((PZ.new (I := [c]) hc (fun k hk => by rw [List.mem_singleton.mp hk]; exact hcc)).2 c List.mem_cons_self).2.2).trans c2
    · exact FrAll.of a6 hnn.1 (PZ.new hc q2) (Nat.le_refl _) f q
  · rw [ei]
    refine nodup_ins (by rw [← idL_ap]; exact a7.1) ?_
    rw [← idL_ap]
    exact q1
  · rw [ei, el]
    intro k hk
    rcases List.mem_append.mp hk with z | z
    · have := a7.2 k (by rw [idL_ap]; exact List.mem_append_left _ z)
      omega
    · rcases List.mem_cons.mp z with z | z
      · omega
      · have := a7.2 k (by rw [idL_ap]; exact List.mem_append_right _ z)
        omega
