/-! THE HEAP AS FUNCTIONS: kind and length of a cell, what its places hold by their types, how many cells there are -/
abbrev aS : Type := (Nat → Nat × Nat) × (Nat → Nat → Value) × (Nat → Nat → Int32) × (Nat → Nat → Int64) × Nat
def sT (s : aS) (a : Nat) : Nat × Nat := s.1 a
def sR (s : aS) (a k : Nat) : Value := s.2.1 a k
def sI (s : aS) (a k : Nat) : Int32 := s.2.2.1 a k
def sJ (s : aS) (a k : Nat) : Int64 := s.2.2.2.1 a k
def sL (s : aS) : Nat := s.2.2.2.2
def fu {α : Type} (f : Nat → Nat → α) (a k : Nat) (v : α) : Nat → Nat → α := fun a' k' => if a' = a ∧ k' = k then v else f a' k'
def wI (s : aS) (a k : Nat) (v : Int32) : aS := (s.1, s.2.1, fu s.2.2.1 a k v, s.2.2.2)
def wR (s : aS) (a k : Nat) (v : Value) : aS := (s.1, fu s.2.1 a k v, s.2.2)
def wJ (s : aS) (a k : Nat) (v : Int64) : aS := (s.1, s.2.1, s.2.2.1, fu s.2.2.2.1 a k v, s.2.2.2.2)
/-- a new cell of kind c with n places, all of them empty -/
def nw (s : aS) (c n : Nat) : aS := (fun a => if a = sL s then (c, n) else s.1 a, fun a k => if a = sL s then .null else s.2.1 a k, fun a k => if a = sL s then 0 else s.2.2.1 a k, fun a k => if a = sL s then 0 else s.2.2.2.1 a k, sL s + 1)
/-- the types of an object's places: 0 int, 2 reference, 3 long -/
def aTy (Ty : List (List Nat)) (c k : Nat) : Nat := if c < 70 then (Ty.getD c []).getD k 0 else if c = 70 then (if k = 0 then 2 else 0) else if c = 104 then 3 else if 110 ≤ c then 2 else 0
def aSlot (t : Nat) (s : aS) (a k : Nat) : Value := if t = 2 then sR s a k else if t = 3 then .long (sJ s a k) else .int (sI s a k)
def aCell (Ty : List (List Nat)) (s : aS) (a : Nat) : xO := ((sT s a).1, (List.range (sT s a).2).map fun k => aSlot (aTy Ty (sT s a).1 k) s a k)
def hOf (Ty : List (List Nat)) (s : aS) : xH := (List.range (sL s)).map (aCell Ty s)
section HP
variable {Ty : List (List Nat)}
theorem hOf_len (s : aS) : (hOf Ty s).length = sL s := by simp [hOf]
theorem hOf_get {s : aS} {a : Nat} (h : a < sL s) : (hOf Ty s)[a]? = some (aCell Ty s a) := by
  rw [hOf, List.getElem?_map, List.getElem?_range h]
  rfl
theorem aCell_get {s : aS} {a k : Nat} (h : k < (sT s a).2) : (aCell Ty s a).2[k]? = some (aSlot (aTy Ty (sT s a).1 k) s a k) := by
  show ((List.range (sT s a).2).map _)[k]? = _
  rw [List.getElem?_map, List.getElem?_range h]
  rfl
theorem aCell_len (s : aS) (a : Nat) : (aCell Ty s a).2.length = (sT s a).2 := by simp [aCell]
/-- one place written: what is asked of the new heap -/
theorem hOf_set {s s' : aS} {a k : Nat} {v : Value} (hL : sL s' = sL s) (hT : ∀ b, sT s' b = sT s b) (hk : k < (sT s a).2) (hv : aSlot (aTy Ty (sT s a).1 k) s' a k = v) (ho : ∀ b j t, ¬ (b = a ∧ j = k) → aSlot t s' b j = aSlot t s b j) : (hOf Ty s).set a ((aCell Ty s a).1, (aCell Ty s a).2.set k v) = hOf Ty s' := by
  apply List.ext_getElem?
  intro b
  rw [List.getElem?_set]
  by_cases hb : b < sL s
  · rw [hOf_get (s := s') (hL ▸ hb)]
    split
    · rename_i e
      subst e
      rw [if_pos (by rw [hOf_len]; exact hb)]
      have : (aCell Ty s a).2.set k v = (aCell Ty s' a).2 := by
        apply List.ext_getElem?
        intro j
        rw [List.getElem?_set]
        by_cases hj : j < (sT s a).2
        · rw [aCell_get (s := s') (by rw [hT]; exact hj), hT]
          split
          · rename_i e
            subst e
            rw [if_pos (by rw [aCell_len]; exact hj), hv]
          · rename_i e
            rw [aCell_get hj, ho a j _ (fun q => e q.2.symm)]
        · rw [List.getElem?_eq_none (l := (aCell Ty s' a).2) (by rw [aCell_len, hT]; omega)]
          split
          · rename_i e
            subst e
            exact absurd hk hj
          · rw [List.getElem?_eq_none]
            rw [aCell_len]
            omega
      rw [this]
      show some (((sT s a).1, (aCell Ty s' a).2) : xO) = some (aCell Ty s' a)
      rw [← hT a]
      rfl
    · rename_i e
      rw [hOf_get hb]
      have : aCell Ty s b = aCell Ty s' b := by
        unfold aCell
        rw [hT b]
        congr 1
        apply List.map_congr_left
        intro j _
        exact (ho b j _ (fun q => e q.1.symm)).symm
      rw [this]
  · rw [List.getElem?_eq_none (l := hOf Ty s') (by rw [hOf_len]; omega)]
    split
    · rw [if_neg (by rw [hOf_len]; omega)]
    · rw [List.getElem?_eq_none]
      rw [hOf_len]
      omega
theorem fu_ne {α : Type} {f : Nat → Nat → α} {a k b j : Nat} {v : α} (h : ¬ (b = a ∧ j = k)) : fu f a k v b j = f b j := if_neg h
theorem fu_eq {α : Type} {f : Nat → Nat → α} {a k : Nat} {v : α} : fu f a k v a k = v := if_pos ⟨rfl, rfl⟩
theorem hOf_wI {s : aS} {a k : Nat} {v : Int32} (hk : k < (sT s a).2) (ht : aTy Ty (sT s a).1 k = 0) : (hOf Ty s).set a ((aCell Ty s a).1, (aCell Ty s a).2.set k (.int v)) = hOf Ty (wI s a k v) := by
  refine hOf_set rfl (fun _ => rfl) hk ?_ ?_
  · rw [ht]
    show Value.int (fu s.2.2.1 a k v a k) = _
    rw [fu_eq]
  · intro b j t h
    show (if t = 2 then sR s b j else if t = 3 then Value.long (sJ s b j) else .int (fu s.2.2.1 a k v b j)) = _
    rw [fu_ne h]
    rfl
theorem hOf_wR {s : aS} {a k : Nat} {v : Value} (hk : k < (sT s a).2) (ht : aTy Ty (sT s a).1 k = 2) : (hOf Ty s).set a ((aCell Ty s a).1, (aCell Ty s a).2.set k v) = hOf Ty (wR s a k v) := by
  refine hOf_set rfl (fun _ => rfl) hk ?_ ?_
  · rw [ht]
    show fu s.2.1 a k v a k = _
    rw [fu_eq]
  · intro b j t h
    show (if t = 2 then fu s.2.1 a k v b j else if t = 3 then Value.long (sJ s b j) else .int (sI s b j)) = _
    rw [fu_ne h]
    rfl
theorem hOf_wJ {s : aS} {a k : Nat} {v : Int64} (hk : k < (sT s a).2) (ht : aTy Ty (sT s a).1 k = 3) : (hOf Ty s).set a ((aCell Ty s a).1, (aCell Ty s a).2.set k (.long v)) = hOf Ty (wJ s a k v) := by
  refine hOf_set rfl (fun _ => rfl) hk ?_ ?_
  · rw [ht]
    show Value.long (fu s.2.2.2.1 a k v a k) = _
    rw [fu_eq]
  · intro b j t h
    show (if t = 2 then sR s b j else if t = 3 then Value.long (fu s.2.2.2.1 a k v b j) else .int (sI s b j)) = _
    rw [fu_ne h]
    rfl
/-- a new cell -/
theorem hOf_nw {s : aS} {c n : Nat} : hOf Ty s ++ [(c, (List.range n).map fun k => aSlot (aTy Ty c k) (nw s c n) (sL s) k)] = hOf Ty (nw s c n) := by
  apply List.ext_getElem?
  intro b
  have hL : sL (nw s c n) = sL s + 1 := rfl
  by_cases hb : b < sL s
  · rw [List.getElem?_append_left (by rw [hOf_len]; exact hb), hOf_get hb, hOf_get (s := nw s c n) (by omega)]
    have hne : b ≠ sL s := by omega
    have hT : sT (nw s c n) b = sT s b := if_neg hne
    have hS : ∀ t k, aSlot t (nw s c n) b k = aSlot t s b k := by
      intro t k
      show (if t = 2 then (if b = sL s then Value.null else s.2.1 b k) else if t = 3 then Value.long (if b = sL s then 0 else s.2.2.2.1 b k) else .int (if b = sL s then 0 else s.2.2.1 b k)) = _
      rw [if_neg hne, if_neg hne, if_neg hne]
      rfl
    unfold aCell
    rw [hT]
    simp only [hS]
  · by_cases he : b = sL s
    · subst he
      rw [List.getElem?_append_right (by rw [hOf_len]; exact Nat.le_refl _), hOf_len, Nat.sub_self, hOf_get (s := nw s c n) (by omega)]
      have hT : sT (nw s c n) (sL s) = (c, n) := if_pos rfl
      unfold aCell
      rw [hT]
      rfl
    · rw [List.getElem?_eq_none (l := hOf Ty (nw s c n)) (by rw [hOf_len, hL]; omega), List.getElem?_eq_none]
      simp [hOf_len]
      omega
theorem nw_slot {s : aS} {c n k t : Nat} : aSlot t (nw s c n) (sL s) k = xdef t := by
  show (if t = 2 then (if sL s = sL s then Value.null else s.2.1 (sL s) k) else if t = 3 then Value.long (if sL s = sL s then 0 else s.2.2.2.1 (sL s) k) else .int (if sL s = sL s then 0 else s.2.2.1 (sL s) k)) = _
  rw [if_pos rfl, if_pos rfl, if_pos rfl]
  by_cases h2 : t = 2
  · subst h2; rfl
  · by_cases h3 : t = 3
    · subst h3; rfl
    · rw [if_neg h2, if_neg h3]
      unfold xdef
      split
      · exact absurd rfl h2
      · exact absurd rfl h3
      · rfl
end HP
