/-! a node as FormulaTrees opens it: its text -/
def erW (v : Int32) : List Int32 := if v = 1 then erN 1 else if v = 2 then erN 2 else if v = 3 then erN 3 else if v = 4 then erN 4 else if v = 5 then erN 5 else if v = 6 then erN 6 else erN 7
set_option maxRecDepth 100000 in
theorem er_w (v : Int32) : ∃ e, (1 ≤ e ∧ e < 8) ∧ erW v = erN e ∧ dm110 v = some (.ref (19 + 2 * e)) ∧ ∀ x, dm204 v x = dm204 (Int32.ofNat e) x := by
  by_cases c1 : v = 1
  · subst c1
    exact ⟨1, by decide, rfl, rfl, fun _ => rfl⟩
  by_cases c2 : v = 2
  · subst c2
    exact ⟨2, by decide, rfl, rfl, fun _ => rfl⟩
  by_cases c3 : v = 3
  · subst c3
    exact ⟨3, by decide, rfl, rfl, fun _ => rfl⟩
  by_cases c4 : v = 4
  · subst c4
    exact ⟨4, by decide, rfl, rfl, fun _ => rfl⟩
  by_cases c5 : v = 5
  · subst c5
    exact ⟨5, by decide, rfl, rfl, fun _ => rfl⟩
  by_cases c6 : v = 6
  · subst c6
    exact ⟨6, by decide, rfl, rfl, fun _ => rfl⟩
  refine ⟨7, by decide, ?_, ?_, fun x => ?_⟩
  · unfold erW
    rw [if_neg c1, if_neg c2, if_neg c3, if_neg c4, if_neg c5, if_neg c6]
  · unfold dm110
    rw [if_neg c1, if_neg c2, if_neg c3, if_neg c4, if_neg c5, if_neg c6]
  · have e7 : dm204 (Int32.ofNat 7) x = dm204_57 x 592326465 4 := rfl
    rw [e7]
    unfold dm204 dm204_31
    rw [if_neg c1, if_neg c2, if_neg c3, if_neg c4, if_neg c5, if_neg c6, if_neg c1, if_neg c5, if_neg c2, if_neg c3, if_neg c4, if_neg c6]
set_option maxRecDepth 100000 in
/-- what is written where a node begins -/
noncomputable def leT (ns : List (List Int32)) (d : Nd) (l : List Int32) : List Int32 := if d 0 = 0 then l else if d 0 = 1 then [34] ++ (dbq 34 l ++ [34]) else if d 0 = 2 then erW (d 8) else if d 0 = 3 then (if d 8 = 1 then trL else faL) else if d 0 = 4 then rfT ns d else if d 0 = 5 then rfT ns d else if d 0 = 6 then l else if d 0 = 7 then l ++ [40] else if d 0 = 10 then [45] else []
section CW
variable {s s1 : aS} {b : Nat} {ns : List (List Int32)} {L : List (Nd × List Int32)} {n : Nd × List Int32} {i : Nat}
set_option maxRecDepth 100000 in
theorem x142 (h : FE s b ns L) (hn : L[i]? = some n) (h2 : -1 ≤ (n.1 2).toInt ∧ (n.1 2).toInt < ns.length) : Ec (leT ns n.1 n.2) (dm142 (Int32.ofNat i) s) s := by
  have f8 : dm57 b (Int32.ofNat i) 8 s = some (n.1 8) := f57 (w := 8) h hn (by omega)
  unfold dm142 leT
  rw [h.1.1]
  simp only [vN_ref]
  rw [if_pos h.1.2.1, show dm57 b (Int32.ofNat i) 0 s = some (n.1 0) from f57 (w := 0) h hn (by omega)]
  simp only [bu_some]
  by_cases c0 : n.1 0 = 0
  · rw [if_pos c0, if_pos c0]
    exact (x143 h hn).o
  rw [if_neg c0, if_neg c0]
  by_cases c1 : n.1 0 = 1
  · rw [if_pos c1, if_pos c1]
    exact (x145 h hn).o
  rw [if_neg c1, if_neg c1]
  by_cases c2 : n.1 0 = 2
  · rw [if_pos c2, if_pos c2, if_pos h.1.2.1, f8]
    simp only [bu_some]
    obtain ⟨e, he, e1, e2, -⟩ := er_w (n.1 8)
    have hs := h.2.2.2.1 e he.1 he.2
    rw [e1, e2]
    simp only [bu_some]
    show Ec (erN e) (if aK s (19 + 2 * e) 70 then bu (dm147 (19 + 2 * e) s) fun s32 => some s32 else none) s
    rw [if_pos hs.2]
    exact (x147 (by omega) hs.1 (by have := erN_len e; omega) (erN_p e (List.mem_range.mpr he.2))).o
  rw [if_neg c2, if_neg c2]
  by_cases c3 : n.1 0 = 3
  · rw [if_pos c3, if_pos c3, if_pos h.1.2.1, f8]
    simp only [bu_some]
    unfold dm142_34
    by_cases q : n.1 8 = 1
    · rw [if_pos q, if_pos q]
      exact (x147 (by decide) h.2.2.2.2.1.1 (by decide) (by decide)).o
    · rw [if_neg q, if_neg q]
      exact (x147 (by decide) h.2.2.2.2.1.2.1 (by decide) (by decide)).o
  rw [if_neg c3, if_neg c3]
  by_cases c4 : n.1 0 = 4
  · rw [if_pos c4, if_pos c4]
    exact (x148 h hn h2).o
  rw [if_neg c4, if_neg c4]
  by_cases c5 : n.1 0 = 5
  · rw [if_pos c5, if_pos c5]
    exact (x148 h hn h2).o
  rw [if_neg c5, if_neg c5]
  by_cases c6 : n.1 0 = 6
  · rw [if_pos c6, if_pos c6]
    exact (x143 h hn).o
  rw [if_neg c6, if_neg c6]
  by_cases c7 : n.1 0 = 7
  · rw [if_pos c7, if_pos c7]
    exact (x143 h hn).b fun s1 _ => (x141 40 s1).o
  rw [if_neg c7, if_neg c7]
  by_cases c8 : n.1 0 = 8
  · rw [if_pos c8, if_neg (fun z => by rw [z] at c8; exact absurd c8 (by decide))]
    exact Ec.n s
  rw [if_neg c8]
  by_cases c9 : n.1 0 = 9
  · rw [if_pos c9, if_neg (fun z => by rw [z] at c9; exact absurd c9 (by decide))]
    exact Ec.n s
  rw [if_neg c9]
  by_cases ca : n.1 0 = 10
  · rw [if_pos ca, if_pos ca]
    exact (x141 45 s).o
  · rw [if_neg ca, if_neg ca]
    exact Ec.n s
end CW
