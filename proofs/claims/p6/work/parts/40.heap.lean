section
/-! THE HEAP AS FUNCTIONS: kind and length of a cell, what its places hold by their types, how many cells there are -/
abbrev aS : Type := (Nat → Nat × Nat) × (Nat → Nat → Value) × (Nat → Nat → Int32) × (Nat → Nat → Int64) × Nat
def sT (s : aS) (a : Nat) : Nat × Nat := s.1 a
def sR (s : aS) (a k : Nat) : Value := s.2.1 a k
def sI (s : aS) (a k : Nat) : Int32 := s.2.2.1 a k
def sJ (s : aS) (a k : Nat) : Int64 := s.2.2.2.1 a k
def sL (s : aS) : Nat := s.2.2.2.2
def fu {α : Type} (f : Nat → Nat → α) (a k : Nat) (v : α) : Nat → Nat → α := fun a' k' => if a' = a ∧ k' = k then v else f a' k'
def wI (s : aS) (a k : Nat) (v : Int32) : aS := (s.1, s.2.1, fu s.2.2.1 a k v, s.2.2.2)
def wR (s : aS) (a k : Nat) (v : Value) : aS := (s.1, fu s.2.1 a k v, s.2.2)
def wJ (s : aS) (a k : Nat) (v : Int64) : aS := (s.1, s.2.1, s.2.2.1, fu s.2.2.2.1 a k v, s.2.2.2.2)
/-- a new cell of kind c with n places, all of them empty -/
def nw (s : aS) (c n : Nat) : aS := (fun a => if a = sL s then (c, n) else s.1 a, fun a k => if a = sL s then .null else s.2.1 a k, fun a k => if a = sL s then 0 else s.2.2.1 a k, fun a k => if a = sL s then 0 else s.2.2.2.1 a k, sL s + 1)
/-- the types of an object's places: 0 int, 2 reference, 3 long -/
def aTy (Ty : List (List Nat)) (c k : Nat) : Nat := if c < 70 then (Ty.getD c []).getD k 0 else if c = 70 then (if k = 0 then 2 else 0) else if c = 104 then 3 else if 110 ≤ c then 2 else 0
def aSlot (t : Nat) (s : aS) (a k : Nat) : Value := if t = 2 then sR s a k else if t = 3 then .long (sJ s a k) else .int (sI s a k)
def aCell (Ty : List (List Nat)) (s : aS) (a : Nat) : xO := ((sT s a).1, (List.range (sT s a).2).map fun k => aSlot (aTy Ty (sT s a).1 k) s a k)
def hOf (Ty : List (List Nat)) (s : aS) : xH := (List.range (sL s)).map (aCell Ty s)
section HP
variable {Ty : List (List Nat)}
theorem hOf_len (s : aS) : (hOf Ty s).length = sL s := by simp [hOf]
theorem hOf_get {s : aS} {a : Nat} (h : a < sL s) : (hOf Ty s)[a]? = some (aCell Ty s a) := by
  rw [hOf, List.getElem?_map, List.getElem?_range h]
  rfl
theorem aCell_get {s : aS} {a k : Nat} (h : k < (sT s a).2) : (aCell Ty s a).2[k]? = some (aSlot (aTy Ty (sT s a).1 k) s a k) := by
  show ((List.range (sT s a).2).map _)[k]? = _
  rw [List.getElem?_map, List.getElem?_range h]
  rfl
theorem aCell_len (s : aS) (a : Nat) : (aCell Ty s a).2.length = (sT s a).2 := by simp [aCell]
/-- one place written: what is asked of the new heap -/
theorem hOf_set {s s' : aS} {a k : Nat} {v : Value} (hL : sL s' = sL s) (hT : ∀ b, sT s' b = sT s b) (hk : k < (sT s a).2) (hv : aSlot (aTy Ty (sT s a).1 k) s' a k = v) (ho : ∀ b j t, ¬ (b = a ∧ j = k) → aSlot t s' b j = aSlot t s b j) : (hOf Ty s).set a ((aCell Ty s a).1, (aCell Ty s a).2.set k v) = hOf Ty s' := by
  apply List.ext_getElem?
  intro b
  rw [List.getElem?_set]
  by_cases hb : b < sL s
  · rw [hOf_get (s := s') (hL ▸ hb)]
    split
    · rename_i e
      subst e
      rw [if_pos (by rw [hOf_len]; exact hb)]
      have : (aCell Ty s a).2.set k v = (aCell Ty s' a).2 := by
        apply List.ext_getElem?
        intro j
        rw [List.getElem?_set]
        by_cases hj : j < (sT s a).2
        · rw [aCell_get (s := s') (by rw [hT]; exact hj), hT]
          split
          · rename_i e
            subst e
            rw [if_pos (by rw [aCell_len]; exact hj), hv]
          · rename_i e
            rw [aCell_get hj, ho a j _ (fun q => e q.2.symm)]
        · rw [List.getElem?_eq_none (l := (aCell Ty s' a).2) (by rw [aCell_len, hT]; omega)]
          split
          · rename_i e
            subst e
            exact absurd hk hj
          · rw [List.getElem?_eq_none]
            rw [aCell_len]
            omega
      rw [this]
      show some (((sT s a).1, (aCell Ty s' a).2) : xO) = some (aCell Ty s' a)
      rw [← hT a]
      rfl
    · rename_i e
      rw [hOf_get hb]
      have : aCell Ty s b = aCell Ty s' b := by
        unfold aCell
        rw [hT b]
        congr 1
        apply List.map_congr_left
        intro j _
        exact (ho b j _ (fun q => e q.1.symm)).symm
      rw [this]
  · rw [List.getElem?_eq_none (l := hOf Ty s') (by rw [hOf_len]; omega)]
    split
    · rw [if_neg (by rw [hOf_len]; omega)]
    · rw [List.getElem?_eq_none]
      rw [hOf_len]
      omega
theorem fu_ne {α : Type} {f : Nat → Nat → α} {a k b j : Nat} {v : α} (h : ¬ (b = a ∧ j = k)) : fu f a k v b j = f b j := if_neg h
theorem fu_eq {α : Type} {f : Nat → Nat → α} {a k : Nat} {v : α} : fu f a k v a k = v := if_pos ⟨rfl, rfl⟩
theorem hOf_wI {s : aS} {a k : Nat} {v : Int32} (hk : k < (sT s a).2) (ht : aTy Ty (sT s a).1 k = 0) : (hOf Ty s).set a ((aCell Ty s a).1, (aCell Ty s a).2.set k (.int v)) = hOf Ty (wI s a k v) := by
  refine hOf_set rfl (fun _ => rfl) hk ?_ ?_
  · rw [ht]
    show Value.int (fu s.2.2.1 a k v a k) = _
    rw [fu_eq]
  · intro b j t h
    show (if t = 2 then sR s b j else if t = 3 then Value.long (sJ s b j) else .int (fu s.2.2.1 a k v b j)) = _
    rw [fu_ne h]
    rfl
theorem hOf_wR {s : aS} {a k : Nat} {v : Value} (hk : k < (sT s a).2) (ht : aTy Ty (sT s a).1 k = 2) : (hOf Ty s).set a ((aCell Ty s a).1, (aCell Ty s a).2.set k v) = hOf Ty (wR s a k v) := by
  refine hOf_set rfl (fun _ => rfl) hk ?_ ?_
  · rw [ht]
    show fu s.2.1 a k v a k = _
    rw [fu_eq]
  · intro b j t h
    show (if t = 2 then fu s.2.1 a k v b j else if t = 3 then Value.long (sJ s b j) else .int (sI s b j)) = _
    rw [fu_ne h]
    rfl
theorem hOf_wJ {s : aS} {a k : Nat} {v : Int64} (hk : k < (sT s a).2) (ht : aTy Ty (sT s a).1 k = 3) : (hOf Ty s).set a ((aCell Ty s a).1, (aCell Ty s a).2.set k (.long v)) = hOf Ty (wJ s a k v) := by
  refine hOf_set rfl (fun _ => rfl) hk ?_ ?_
  · rw [ht]
    show Value.long (fu s.2.2.2.1 a k v a k) = _
    rw [fu_eq]
  · intro b j t h
    show (if t = 2 then sR s b j else if t = 3 then Value.long (fu s.2.2.2.1 a k v b j) else .int (sI s b j)) = _
    rw [fu_ne h]
    rfl
/-- a new cell -/
theorem hOf_nw {s : aS} {c n : Nat} : hOf Ty s ++ [(c, (List.range n).map fun k => aSlot (aTy Ty c k) (nw s c n) (sL s) k)] = hOf Ty (nw s c n) := by
  apply List.ext_getElem?
  intro b
  have hL : sL (nw s c n) = sL s + 1 := rfl
  by_cases hb : b < sL s
  · rw [List.getElem?_append_left (by rw [hOf_len]; exact hb), hOf_get hb, hOf_get (s := nw s c n) (by omega)]
    have hne : b ≠ sL s := by omega
    have hT : sT (nw s c n) b = sT s b := if_neg hne
    have hS : ∀ t k, aSlot t (nw s c n) b k = aSlot t s b k := by
      intro t k
      show (if t = 2 then (if b = sL s then Value.null else s.2.1 b k) else if t = 3 then Value.long (if b = sL s then 0 else s.2.2.2.1 b k) else .int (if b = sL s then 0 else s.2.2.1 b k)) = _
      rw [if_neg hne, if_neg hne, if_neg hne]
      rfl
    unfold aCell
    rw [hT]
    simp only [hS]
  · by_cases he : b = sL s
    · subst he
      rw [List.getElem?_append_right (by rw [hOf_len]; exact Nat.le_refl _), hOf_len, Nat.sub_self, hOf_get (s := nw s c n) (by omega)]
      have hT : sT (nw s c n) (sL s) = (c, n) := if_pos rfl
      unfold aCell
      rw [hT]
      rfl
    · rw [List.getElem?_eq_none (l := hOf Ty (nw s c n)) (by rw [hOf_len, hL]; omega), List.getElem?_eq_none]
      simp [hOf_len]
      omega
theorem nw_slot {s : aS} {c n k t : Nat} : aSlot t (nw s c n) (sL s) k = xdef t := by
  show (if t = 2 then (if sL s = sL s then Value.null else s.2.1 (sL s) k) else if t = 3 then Value.long (if sL s = sL s then 0 else s.2.2.2.1 (sL s) k) else .int (if sL s = sL s then 0 else s.2.2.1 (sL s) k)) = _
  rw [if_pos rfl, if_pos rfl, if_pos rfl]
  by_cases h2 : t = 2
  · subst h2; rfl
  · by_cases h3 : t = 3
    · subst h3; rfl
    · rw [if_neg h2, if_neg h3]
      unfold xdef
      split
      · exact absurd rfl h2
      · exact absurd rfl h3
      · rfl
end HP
end
section
/-! RUNS over the heap as functions: a rule an instruction -/
abbrev jN (j : Int32) : Nat := j.toNatClampNeg
/-- an index that fits -/
abbrev aB (j : Int32) (n : Nat) : Prop := ¬ j < 0 ∧ jN j < n
def nC (x : Int32) : Int32 := x.toUInt32.toUInt16.toUInt32.toInt32
def nB (c : Nat) (x : Int32) : Int32 := if c = 103 then x &&& 1 else x.toInt8.toInt32
/-- a step that does not look at the heap -/
def pS (Cs : List Value) (ins : Instr) (ax : List Nat) (i : Nat) (ls : xL) (st : List Value) : Option (Nat × xL × List Value) := match xS ins st with
  | some st' => some (i + 1, ls, st')
  | none => match xV ins ls st with
    | some (ls', st') => some (i + 1, ls', st')
    | none => match xB ins ax i st with
      | some (i', st') => some (i', ls, st')
      | none => match xT Cs ins ax st with
        | some st' => some (i + 1, ls, st')
        | none => none
/-- many of them -/
def pRun (Cs : List Value) (es : List xE) : Nat → Nat → xL → List Value → Option (Nat × xL × List Value)
  | 0, i, ls, st => some (i, ls, st)
  | n + 1, i, ls, st => match es[i]? with
    | none => none
    | some (_, _, ins, ax) => match pS Cs ins ax i ls st with
      | none => none
      | some (i', ls', st') => pRun Cs es n i' ls' st'
def A (P : List xQ6) (Cs : List Value) (K : Nat) (Ty : List (List Nat)) (d k i : Nat) (ls : xL) (st : List Value) (s : aS) (o : xZ × aS) : Prop := G P Cs K d k i ls st (hOf Ty s) (o.1, hOf Ty o.2)
section AR
variable {P : List xQ6} {Cs : List Value} {K : Nat} {Ty : List (List Nat)} {d k i : Nat} {ls : xL} {st : List Value} {s : aS} {o : xZ × aS}
theorem xT_only {ins : Instr} {ax : List Nat} {st st' : List Value} {hp : xH} (h : xT Cs ins ax st = some st') : xR ins ax st hp = none ∧ xW K ins ax st hp = none ∧ xA ins ax st hp = none := by
  unfold xT at h
  split at h
  · exact ⟨rfl, rfl, rfl⟩
  · exact ⟨rfl, rfl, rfl⟩
  · exact ⟨rfl, rfl, rfl⟩
  · exact ⟨rfl, rfl, rfl⟩
  · cases h
theorem gS_pS {ins : Instr} {ax : List Nat} {i' : Nat} {ls' : xL} {st' : List Value} {hp : xH} (hi : gI P k i = some (ins, ax)) (h : pS Cs ins ax i ls st = some (i', ls', st')) : gS P Cs K k i ls st hp = some (i', ls', st', hp) := by
  unfold gS
  rw [hi]
  unfold pS at h
  simp only
  unfold x1
  split at h
  · rename_i q hq
    cases h
    simp only [hq]
  · rename_i hq
    split at h
    · rename_i l2 s2 h2
      cases h
      simp only [hq, h2]
    · rename_i h2
      split at h
      · rename_i i3 s3 h3
        cases h
        simp only [hq, h2, h3]
      · rename_i h3
        split at h
        · rename_i s4 h4
          cases h
          obtain ⟨e1, e2, e3⟩ := xT_only (K := K) (hp := hp) h4
          simp only [hq, h2, h3, e1, e2, e3, h4]
        · cases h
theorem A.ss {ins : Instr} {ax : List Nat} {i' : Nat} {ls' : xL} {st' : List Value} (hi : gI P k i = some (ins, ax)) (h : pS Cs ins ax i ls st = some (i', ls', st')) (g : A P Cs K Ty d k i' ls' st' s o) : A P Cs K Ty d k i ls st s o := G.s (gS_pS hi h) g
theorem A.run {M : xQ6} (hM : P[k]? = some M) : ∀ (n : Nat) {i i' : Nat} {ls ls' : xL} {st st' : List Value}, pRun Cs M.2.2.2.2.2 n i ls st = some (i', ls', st') → A P Cs K Ty d k i' ls' st' s o → A P Cs K Ty d k i ls st s o := by
  intro n
  induction n with
  | zero =>
    intro i i' ls ls' st st' h g
    cases h
    exact g
  | succ n ih =>
    intro i i' ls ls' st st' h g
    rw [pRun] at h
    split at h
    · cases h
    · rename_i a b ins ax hE
      split at h
      · cases h
      · rename_i i2 ls2 st2 h2
        exact A.ss (ins := ins) (ax := ax) (by unfold gI; simp only [hM, hE]) h2 (ih h g)
theorem A.bT {c : ClassFile.Cond} {q : Int} {t : Nat} {x y : Int32} (hi : gI P k i = some (.if_icmp c q, [t])) (h : xcn c x y = true) (g : A P Cs K Ty d k t ls st s o) : A P Cs K Ty d k i ls (.int y :: .int x :: st) s o := A.ss hi (by show some (if xcn c x y = true then t else i + 1, ls, st) = _; rw [if_pos h]) g
theorem A.bF {c : ClassFile.Cond} {q : Int} {t : Nat} {x y : Int32} (hi : gI P k i = some (.if_icmp c q, [t])) (h : ¬ xcn c x y = true) (g : A P Cs K Ty d k (i + 1) ls st s o) : A P Cs K Ty d k i ls (.int y :: .int x :: st) s o := A.ss hi (by show some (if xcn c x y = true then t else i + 1, ls, st) = _; rw [if_neg h]) g
theorem A.zT {c : ClassFile.Cond} {q : Int} {t : Nat} {x : Int32} (hi : gI P k i = some (.ifCond c q, [t])) (h : xcn c x 0 = true) (g : A P Cs K Ty d k t ls st s o) : A P Cs K Ty d k i ls (.int x :: st) s o := A.ss hi (by show some (if xcn c x 0 = true then t else i + 1, ls, st) = _; rw [if_pos h]) g
theorem A.zF {c : ClassFile.Cond} {q : Int} {t : Nat} {x : Int32} (hi : gI P k i = some (.ifCond c q, [t])) (h : ¬ xcn c x 0 = true) (g : A P Cs K Ty d k (i + 1) ls st s o) : A P Cs K Ty d k i ls (.int x :: st) s o := A.ss hi (by show some (if xcn c x 0 = true then t else i + 1, ls, st) = _; rw [if_neg h]) g
/-- a switch, where its value's place is known -/
theorem A.ts {q : Int} {lo hi' : Int} {js : Array Int} {t0 : Nat} {ts : List Nat} {x : Int32} {t : Nat} (hi : gI P k i = some (.tableswitch q lo hi' js, t0 :: ts)) (h : (if x.toInt < lo ∨ hi' < x.toInt then some t0 else ts[(x.toInt - lo).toNat]?) = some t) (g : A P Cs K Ty d k t ls st s o) : A P Cs K Ty d k i ls (.int x :: st) s o := A.ss hi (by
  show (match (if x.toInt < lo ∨ hi' < x.toInt then some (t0, st) else (ts[(x.toInt - lo).toNat]?).map fun t => (t, st)) with | some (i', st') => some (i', ls, st') | none => _) = _
  by_cases hq : x.toInt < lo ∨ hi' < x.toInt
  · rw [if_pos hq] at h ⊢
    cases h
    rfl
  · rw [if_neg hq] at h ⊢
    rw [h]
    rfl) g
theorem A.lk {q : Int} {ps : Array (Int × Int)} {t0 : Nat} {ts : List Nat} {x : Int32} {t : Nat} (hi : gI P k i = some (.lookupswitch q ps, t0 :: ts)) (h : xlk ps.toList ts t0 x.toInt = t) (g : A P Cs K Ty d k t ls st s o) : A P Cs K Ty d k i ls (.int x :: st) s o := A.ss hi (by show some (xlk ps.toList ts t0 x.toInt, ls, st) = _; rw [h]) g
/-- reading -/
theorem A.gf {q ci kk n a : Nat} {rs : List Nat} {v : Value} (hi : gI P k i = some (.getfield q, ci :: kk :: rs)) (ha : a < sL s) (hT : sT s a = (ci, n)) (hk : kk < n) (hv : aSlot (aTy Ty ci kk) s a kk = v) (g : A P Cs K Ty d k (i + 1) ls (v :: st) s o) : A P Cs K Ty d k i ls (.ref a :: st) s o := by
  refine G.s ?_ g
  unfold gS
  rw [hi]
  have e : xR (.getfield q) (ci :: kk :: rs) (.ref a :: st) (hOf Ty s) = some (v :: st) := by
    show (match (hOf Ty s)[a]? with | some (c, vs) => if c = ci then (vs[kk]?).map fun v => v :: st else none | none => none) = _
    rw [hOf_get ha]
    show (if (sT s a).1 = ci then ((aCell Ty s a).2[kk]?).map fun v => v :: st else none) = _
    rw [if_pos (by rw [hT]), aCell_get (by rw [hT]; exact hk), hT, hv]
    rfl
  show (match x1 K (.getfield q) (ci :: kk :: rs) i ls (.ref a :: st) (hOf Ty s) with | some q => some q | none => _) = _
  unfold x1
  show (match (match xR (.getfield q) (ci :: kk :: rs) (.ref a :: st) (hOf Ty s) with | some st' => some (i + 1, ls, st', hOf Ty s) | none => _) with | some q => some q | none => _) = _
  rw [e]
theorem aX {ins : Instr} {ax : List Nat} {st' : List Value} (hi : gI P k i = some (ins, ax)) (h1 : xS ins st = none) (h2 : xV ins ls st = none) (h3 : xB ins ax i st = none) (h : xR ins ax st (hOf Ty s) = some st') (g : A P Cs K Ty d k (i + 1) ls st' s o) : A P Cs K Ty d k i ls st s o := by
  refine G.s ?_ g
  unfold gS
  rw [hi]
  simp only [x1, h1, h2, h3, h]
theorem A.al {a c n : Nat} {ax : List Nat} (hi : gI P k i = some (.arraylength, ax)) (ha : a < sL s) (hT : sT s a = (c, n)) (hc : 100 ≤ c) (g : A P Cs K Ty d k (i + 1) ls (.int (Int32.ofNat n) :: st) s o) : A P Cs K Ty d k i ls (.ref a :: st) s o := by
  refine aX hi rfl rfl rfl ?_ g
  show (match (hOf Ty s)[a]? with | some (c, vs) => if 100 ≤ c then some (Value.int (Int32.ofNat vs.length) :: st) else none | none => none) = _
  rw [hOf_get ha]
  show (if 100 ≤ (sT s a).1 then some (Value.int (Int32.ofNat (aCell Ty s a).2.length) :: st) else none) = _
  rw [if_pos (by rw [hT]; exact hc), aCell_len, hT]
theorem axat_ok {a c n : Nat} {j : Int32} {b : Bool} (hT : sT s a = (c, n)) (hb : b = true) (hj : aB j n) : xat b (aCell Ty s a).2 j = some (aSlot (aTy Ty c (jN j)) s a (jN j)) := by
  unfold xat
  rw [if_pos ⟨hb, hj.1⟩, aCell_get (by rw [hT]; exact hj.2), hT]
theorem A.ia {a n : Nat} {j : Int32} {ax : List Nat} (hi : gI P k i = some (.iaload, ax)) (ha : a < sL s) (hT : sT s a = (100, n)) (hj : aB j n) (g : A P Cs K Ty d k (i + 1) ls (.int (sI s a (jN j)) :: st) s o) : A P Cs K Ty d k i ls (.int j :: .ref a :: st) s o := by
  refine aX hi rfl rfl rfl ?_ g
  show (match (hOf Ty s)[a]? with | some (c, vs) => (xat (c == 100) vs j).map fun v => v :: st | none => none) = _
  rw [hOf_get ha]
  show (xat ((sT s a).1 == 100) (aCell Ty s a).2 j).map _ = _
  rw [axat_ok hT (by rw [hT]; rfl) hj]
  rfl
theorem A.ba {a c n : Nat} {j : Int32} {ax : List Nat} (hi : gI P k i = some (.baload, ax)) (ha : a < sL s) (hT : sT s a = (c, n)) (hc : c = 101 ∨ c = 103) (hj : aB j n) (g : A P Cs K Ty d k (i + 1) ls (.int (sI s a (jN j)) :: st) s o) : A P Cs K Ty d k i ls (.int j :: .ref a :: st) s o := by
  refine aX hi rfl rfl rfl ?_ g
  show (match (hOf Ty s)[a]? with | some (c, vs) => (xat (c == 101 || c == 103) vs j).map fun v => v :: st | none => none) = _
  rw [hOf_get ha]
  show (xat ((sT s a).1 == 101 || (sT s a).1 == 103) (aCell Ty s a).2 j).map _ = _
  rw [axat_ok hT (by rw [hT]; rcases hc with rfl | rfl <;> rfl) hj]
  rcases hc with rfl | rfl <;> rfl
theorem A.ca {a n : Nat} {j : Int32} {ax : List Nat} (hi : gI P k i = some (.caload, ax)) (ha : a < sL s) (hT : sT s a = (102, n)) (hj : aB j n) (g : A P Cs K Ty d k (i + 1) ls (.int (sI s a (jN j)) :: st) s o) : A P Cs K Ty d k i ls (.int j :: .ref a :: st) s o := by
  refine aX hi rfl rfl rfl ?_ g
  show (match (hOf Ty s)[a]? with | some (c, vs) => (xat (c == 102) vs j).map fun v => v :: st | none => none) = _
  rw [hOf_get ha]
  show (xat ((sT s a).1 == 102) (aCell Ty s a).2 j).map _ = _
  rw [axat_ok hT (by rw [hT]; rfl) hj]
  rfl
theorem A.la {a n : Nat} {j : Int32} {ax : List Nat} (hi : gI P k i = some (.laload, ax)) (ha : a < sL s) (hT : sT s a = (104, n)) (hj : aB j n) (g : A P Cs K Ty d k (i + 1) ls (.long (sJ s a (jN j)) :: st) s o) : A P Cs K Ty d k i ls (.int j :: .ref a :: st) s o := by
  refine aX hi rfl rfl rfl ?_ g
  show (match (hOf Ty s)[a]? with | some (c, vs) => (xat (c == 104) vs j).map fun v => v :: st | none => none) = _
  rw [hOf_get ha]
  show (xat ((sT s a).1 == 104) (aCell Ty s a).2 j).map _ = _
  rw [axat_ok hT (by rw [hT]; rfl) hj]
  rfl
theorem A.aa {a c n : Nat} {j : Int32} {ax : List Nat} {v : Value} (hi : gI P k i = some (.aaload, ax)) (ha : a < sL s) (hT : sT s a = (c, n)) (hc : 110 ≤ c) (hj : aB j n) (hv : sR s a (jN j) = v) (g : A P Cs K Ty d k (i + 1) ls (v :: st) s o) : A P Cs K Ty d k i ls (.int j :: .ref a :: st) s o := by
  refine aX hi rfl rfl rfl ?_ g
  show (match (hOf Ty s)[a]? with | some (c, vs) => (xat (decide (110 ≤ c)) vs j).map fun v => v :: st | none => none) = _
  rw [hOf_get ha]
  show (xat (decide (110 ≤ (sT s a).1)) (aCell Ty s a).2 j).map _ = _
  rw [axat_ok hT (by rw [hT]; exact decide_eq_true hc) hj, show aTy Ty c (jN j) = 2 by unfold aTy; rw [if_neg (by omega), if_neg (by omega), if_neg (by omega), if_pos hc]]
  rw [← hv]
  rfl
/-- writing -/
theorem aW {ins : Instr} {ax : List Nat} {st' : List Value} {s' : aS} (hi : gI P k i = some (ins, ax)) (h1 : xS ins st = none) (h2 : xV ins ls st = none) (h3 : xB ins ax i st = none) (h4 : xR ins ax st (hOf Ty s) = none) (h : xW K ins ax st (hOf Ty s) = some (st', hOf Ty s')) (g : A P Cs K Ty d k (i + 1) ls st' s' o) : A P Cs K Ty d k i ls st s o := by
  refine G.s ?_ g
  unfold gS
  rw [hi]
  simp only [x1, h1, h2, h3, h4, h]
theorem xW_pf {q ci kk t n a : Nat} {rs : List Nat} {v : Value} {s' : aS} (ha : a < sL s) (hK : K ≤ a) (hT : sT s a = (ci, n)) (hk : kk < n) (hf : xfit t v = true) (he : (hOf Ty s).set a ((aCell Ty s a).1, (aCell Ty s a).2.set kk v) = hOf Ty s') : xW K (.putfield q) (ci :: kk :: t :: rs) (v :: .ref a :: st) (hOf Ty s) = some (st, hOf Ty s') := by
  show (match (hOf Ty s)[a]? with | some (c, vs) => if K ≤ a ∧ c = ci ∧ kk < vs.length ∧ xfit t v = true then some (st, (hOf Ty s).set a (c, vs.set kk v)) else none | none => none) = _
  rw [hOf_get ha]
  show (if K ≤ a ∧ (sT s a).1 = ci ∧ kk < (aCell Ty s a).2.length ∧ xfit t v = true then some (st, (hOf Ty s).set a ((aCell Ty s a).1, (aCell Ty s a).2.set kk v)) else none) = _
  rw [if_pos ⟨hK, by rw [hT], by rw [aCell_len, hT]; exact hk, hf⟩, he]
theorem A.pf {q ci kk t n a : Nat} {rs : List Nat} {v : Int32} (hi : gI P k i = some (.putfield q, ci :: kk :: t :: rs)) (ha : a < sL s) (hK : K ≤ a) (hT : sT s a = (ci, n)) (hk : kk < n) (ht : aTy Ty ci kk = 0) (hf : xfit t (.int v) = true) (g : A P Cs K Ty d k (i + 1) ls st (wI s a kk v) o) : A P Cs K Ty d k i ls (.int v :: .ref a :: st) s o :=
  aW hi rfl rfl rfl rfl (xW_pf ha hK hT hk hf (hOf_wI (by rw [hT]; exact hk) (by rw [hT]; exact ht))) g
theorem A.pr {q ci kk t n a : Nat} {rs : List Nat} {v : Value} (hi : gI P k i = some (.putfield q, ci :: kk :: t :: rs)) (ha : a < sL s) (hK : K ≤ a) (hT : sT s a = (ci, n)) (hk : kk < n) (ht : aTy Ty ci kk = 2) (hf : xfit t v = true) (g : A P Cs K Ty d k (i + 1) ls st (wR s a kk v) o) : A P Cs K Ty d k i ls (v :: .ref a :: st) s o :=
  aW hi rfl rfl rfl rfl (xW_pf ha hK hT hk hf (hOf_wR (by rw [hT]; exact hk) (by rw [hT]; exact ht))) g
theorem axup_ok {a c n : Nat} {j : Int32} {ok : Nat → Bool} {v : Nat → Value} {s' : aS} (ha : a < sL s) (hK : K ≤ a) (hT : sT s a = (c, n)) (hc : ok c = true) (hj : aB j n) (he : (hOf Ty s).set a ((aCell Ty s a).1, (aCell Ty s a).2.set (jN j) (v c)) = hOf Ty s') : xup K (hOf Ty s) a ok j v = some (hOf Ty s') := by
  unfold xup
  rw [hOf_get ha]
  show (if K ≤ a ∧ ok (sT s a).1 = true ∧ ¬ j < 0 ∧ j.toNatClampNeg < (aCell Ty s a).2.length then some ((hOf Ty s).set a ((sT s a).1, (aCell Ty s a).2.set j.toNatClampNeg (v (sT s a).1))) else none) = _
  rw [if_pos ⟨hK, by rw [hT]; exact hc, hj.1, by rw [aCell_len, hT]; exact hj.2⟩]
  rw [← he]
  show some ((hOf Ty s).set a ((sT s a).1, (aCell Ty s a).2.set j.toNatClampNeg (v (sT s a).1))) = some ((hOf Ty s).set a ((sT s a).1, (aCell Ty s a).2.set (jN j) (v c)))
  rw [hT]
theorem A.is {a n : Nat} {j v : Int32} {ax : List Nat} (hi : gI P k i = some (.iastore, ax)) (ha : a < sL s) (hK : K ≤ a) (hT : sT s a = (100, n)) (hj : aB j n) (g : A P Cs K Ty d k (i + 1) ls st (wI s a (jN j) v) o) : A P Cs K Ty d k i ls (.int v :: .int j :: .ref a :: st) s o := by
  refine aW hi rfl rfl rfl rfl ?_ g
  show (xup K (hOf Ty s) a _ j _).map _ = _
  rw [axup_ok (s' := wI s a (jN j) v) ha hK hT rfl hj (hOf_wI (by rw [hT]; exact hj.2) (by rw [hT]; rfl))]
  rfl
theorem A.cs {a n : Nat} {j v : Int32} {ax : List Nat} (hi : gI P k i = some (.castore, ax)) (ha : a < sL s) (hK : K ≤ a) (hT : sT s a = (102, n)) (hj : aB j n) (g : A P Cs K Ty d k (i + 1) ls st (wI s a (jN j) (nC v)) o) : A P Cs K Ty d k i ls (.int v :: .int j :: .ref a :: st) s o := by
  refine aW hi rfl rfl rfl rfl ?_ g
  show (xup K (hOf Ty s) a _ j _).map _ = _
  rw [axup_ok (s' := wI s a (jN j) (nC v)) ha hK hT rfl hj (hOf_wI (by rw [hT]; exact hj.2) (by rw [hT]; rfl))]
  rfl
theorem A.bs {a n : Nat} {j v : Int32} {ax : List Nat} (hi : gI P k i = some (.bastore, ax)) (ha : a < sL s) (hK : K ≤ a) (hT : sT s a = (103, n)) (hj : aB j n) (g : A P Cs K Ty d k (i + 1) ls st (wI s a (jN j) (v &&& 1)) o) : A P Cs K Ty d k i ls (.int v :: .int j :: .ref a :: st) s o := by
  refine aW hi rfl rfl rfl rfl ?_ g
  show (xup K (hOf Ty s) a _ j _).map _ = _
  rw [axup_ok (s' := wI s a (jN j) (v &&& 1)) ha hK hT rfl hj (hOf_wI (by rw [hT]; exact hj.2) (by rw [hT]; rfl))]
  rfl
theorem A.lS {a n : Nat} {j : Int32} {v : Int64} {ax : List Nat} (hi : gI P k i = some (.lastore, ax)) (ha : a < sL s) (hK : K ≤ a) (hT : sT s a = (104, n)) (hj : aB j n) (g : A P Cs K Ty d k (i + 1) ls st (wJ s a (jN j) v) o) : A P Cs K Ty d k i ls (.long v :: .int j :: .ref a :: st) s o := by
  refine aW hi rfl rfl rfl rfl ?_ g
  show (xup K (hOf Ty s) a _ j _).map _ = _
  rw [axup_ok (s' := wJ s a (jN j) v) ha hK hT rfl hj (hOf_wJ (by rw [hT]; exact hj.2) (by rw [hT]; rfl))]
  rfl
theorem A.as {a n b nb ci : Nat} {j : Int32} {rs : List Nat} (hi : gI P k i = some (.aastore, ci :: rs)) (ha : a < sL s) (hK : K ≤ a) (hc : ci < 100) (hT : sT s a = (110 + ci, n)) (hb : b < sL s) (hTb : sT s b = (ci, nb)) (hj : aB j n) (g : A P Cs K Ty d k (i + 1) ls st (wR s a (jN j) (.ref b)) o) : A P Cs K Ty d k i ls (.ref b :: .int j :: .ref a :: st) s o := by
  refine aW hi rfl rfl rfl rfl ?_ g
  show (match (hOf Ty s)[b]? with | some (cv, _) => if cv = ci ∧ ci < 100 then (xup K (hOf Ty s) a (fun c => c == 110 + ci) j (fun _ => .ref b)).map fun h => (st, h) else none | none => none) = _
  rw [hOf_get hb]
  show (if (sT s b).1 = ci ∧ ci < 100 then (xup K (hOf Ty s) a (fun c => c == 110 + ci) j (fun _ => .ref b)).map fun h => (st, h) else none) = _
  rw [if_pos ⟨by rw [hTb], hc⟩, axup_ok (s' := wR s a (jN j) (.ref b)) ha hK hT (by simp) hj (hOf_wR (by rw [hT]; exact hj.2) (by rw [hT]; show aTy Ty (110 + ci) (jN j) = 2; unfold aTy; rw [if_neg (by omega), if_neg (by omega), if_neg (by omega), if_pos (by omega)]))]
  rfl
/-- ends -/
theorem A.r {r : Option Value} (h : gR P Cs K k i ls st (hOf Ty s) = some r) : A P Cs K Ty d k i ls st s (.inl r, s) := G.r h
theorem gR_of {M : xQ6} {ins : Instr} {ax : List Nat} {r : Option Value} {a b : Nat} {hp : xH} (hM : P[k]? = some M) (hE : M.2.2.2.2.2[i]? = some (a, b, ins, ax)) (hn : x1 K ins ax i ls st hp = none) (ht : xT Cs ins ax st = none) (h : xret M.2.2.2.1 ins st = some r) : gR P Cs K k i ls st hp = some r := by
  unfold gR
  simp only [hM, hE, hn, ht, h]
theorem A.ri {M : xQ6} {a b : Nat} {ax : List Nat} {v : Int32} {ty : FieldType} (hM : P[k]? = some M) (hE : M.2.2.2.2.2[i]? = some (a, b, .ireturn, ax)) (hr : M.2.2.2.1 = some ty) (hf : xfit (xtc ty) (.int v) = true) : A P Cs K Ty d k i ls [.int v] s (.inl (some (.int v)), s) := A.r (gR_of hM hE rfl rfl (by rw [hr]; show (if xfit (xtc ty) (.int v) = true then some (some (Value.int v)) else none) = _; rw [if_pos hf]))
theorem A.rv {M : xQ6} {a b : Nat} {ax : List Nat} (hM : P[k]? = some M) (hE : M.2.2.2.2.2[i]? = some (a, b, .return_, ax)) (hr : M.2.2.2.1 = none) : A P Cs K Ty d k i ls [] s (.inl none, s) := A.r (gR_of hM hE rfl rfl (by rw [hr]; rfl))
theorem A.ra {M : xQ6} {a b : Nat} {ax : List Nat} {v : Value} {ty : FieldType} (hM : P[k]? = some M) (hE : M.2.2.2.2.2[i]? = some (a, b, .areturn, ax)) (hr : M.2.2.2.1 = some ty) (ht : xtc ty = 2) (hf : xfit 2 v = true) : A P Cs K Ty d k i ls [v] s (.inl (some v), s) := A.r (gR_of hM hE rfl rfl (by rw [hr]; show (if xtc ty = 2 ∧ xfit 2 v = true then some (some v) else none) = _; rw [if_pos ⟨ht, hf⟩]))
/-- a throw -/
theorem A.t {M : xQ6} {a b q c : Nat} {rs : List Nat} (hM : P[k]? = some M) (hE : M.2.2.2.2.2[i]? = some (a, b, .new q, c :: rs)) (hc : 200 ≤ c) (hd : 8 ≤ d) : A P Cs K Ty (d + 1) k i ls [] s (.inr (c - 200), nw s (80 + (c - 200)) 0) := by
  have h : gT P Cs K k i ls [] (hOf Ty s) = some (c - 200) := by
    unfold gT
    simp only [hM, hE]
    have e : x1 K (.new q) (c :: rs) i ls [] (hOf Ty s) = none := by
      show (match (if c < 80 then some ([Value.ref (hOf Ty s).length], hOf Ty s ++ [(c, rs.map xdef)]) else none) with | some (st', hp') => some (i + 1, ls, st', hp') | none => none) = _
      rw [if_neg (by omega)]
    simp only [e]
    show (if 200 ≤ c then some (c - 200) else none) = _
    rw [if_pos hc]
  have g := G.t (d := d) h hd
  have e2 := hOf_nw (Ty := Ty) (s := s) (c := 80 + (c - 200)) (n := 0)
  unfold A
  rw [← e2]
  exact g
/-- calls -/
def aC (n : Nat) (st : List Value) (mx : Nat) : Option (xL × List Value) := if n ≤ st.length ∧ ((st.drop n).map fun v : Value => v.category).sum ≤ 8 ∧ (xent (st.take n).reverse mx).length = mx then some (xent (st.take n).reverse mx, st.drop n) else none
theorem gC_of {M M1 : xQ6} {ins : Instr} {ax : List Nat} {a b k1 : Nat} {as r : List Value} {hp : xH} (hM : P[k]? = some M) (hE : M.2.2.2.2.2[i]? = some (a, b, ins, ax)) (h1 : x1 K ins ax i ls st hp = none) (h2 : xT Cs ins ax st = none) (h3 : xret M.2.2.2.1 ins st = none) (h4 : xsp K ins ax st hp = none) (h5 : xcall ins ax st hp = some (k1, as, r)) (hM1 : P[k1]? = some M1) (h6 : (xent as M1.2.2.1).length = M1.2.2.1) : gC P Cs K k i ls st hp = some (k1, xent as M1.2.2.1, r) := by
  unfold gC
  simp only [hM, hE, h1, h2, h3, h4, h5, hM1, if_pos h6]
theorem gC_st {M M1 : xQ6} {a b q k1 n : Nat} {rs : List Nat} {ls1 : xL} {r : List Value} {hp : xH} (hM : P[k]? = some M) (hE : M.2.2.2.2.2[i]? = some (a, b, .invokestatic q, 0 :: k1 :: n :: rs)) (hM1 : P[k1]? = some M1) (hx : aC n st M1.2.2.1 = some (ls1, r)) : gC P Cs K k i ls st hp = some (k1, ls1, r) := by
  unfold aC at hx
  split at hx
  · rename_i h
    cases hx
    refine gC_of hM hE rfl rfl ?_ rfl ?_ hM1 h.2.2
    · unfold xret; rfl
    · show (if n ≤ st.length ∧ ((st.drop n).map fun v : Value => v.category).sum ≤ 8 then some (k1, (st.take n).reverse, st.drop n) else none) = _
      rw [if_pos ⟨h.1, h.2.1⟩]
  · cases hx
/-- the receiver is the last of the n + 1 -/
def aCr (n a : Nat) (st : List Value) (mx : Nat) : Option (xL × List Value) := if ((st.drop (n + 1)).map fun v : Value => v.category).sum ≤ 8 ∧ (xent (.ref a :: (st.take n).reverse) mx).length = mx then some (xent (.ref a :: (st.take n).reverse) mx, st.drop (n + 1)) else none
theorem gC_sp {M M1 : xQ6} {a b q k1 n x : Nat} {rs : List Nat} {ls1 : xL} {r : List Value} {hp : xH} (hM : P[k]? = some M) (hE : M.2.2.2.2.2[i]? = some (a, b, .invokespecial q, 0 :: k1 :: n :: rs)) (hM1 : P[k1]? = some M1) (hr : st[n]? = some (.ref x)) (hx : aCr n x st M1.2.2.1 = some (ls1, r)) : gC P Cs K k i ls st hp = some (k1, ls1, r) := by
  unfold aCr at hx
  split at hx
  · rename_i h
    cases hx
    refine gC_of hM hE rfl rfl ?_ rfl ?_ hM1 h.2
    · unfold xret; rfl
    · show (match st[n]? with | some (.ref a) => if ((st.drop (n + 1)).map fun v : Value => v.category).sum ≤ 8 then some (k1, Value.ref a :: (st.take n).reverse, st.drop (n + 1)) else none | _ => none) = _
      rw [hr]
      show (if ((st.drop (n + 1)).map fun v : Value => v.category).sum ≤ 8 then some (k1, Value.ref x :: (st.take n).reverse, st.drop (n + 1)) else none) = _
      rw [if_pos h.1]
  · cases hx
theorem gC_vi {M M1 : xQ6} {a b q k1 n x ci m : Nat} {rs : List Nat} {ls1 : xL} {r : List Value} (hM : P[k]? = some M) (hE : M.2.2.2.2.2[i]? = some (a, b, .invokevirtual q, 0 :: k1 :: n :: ci :: rs)) (hM1 : P[k1]? = some M1) (ha : x < sL s) (hT : sT s x = (ci, m)) (hr : st[n]? = some (.ref x)) (hx : aCr n x st M1.2.2.1 = some (ls1, r)) : gC P Cs K k i ls st (hOf Ty s) = some (k1, ls1, r) := by
  unfold aCr at hx
  split at hx
  · rename_i h
    cases hx
    refine gC_of hM hE rfl rfl ?_ rfl ?_ hM1 h.2
    · unfold xret; rfl
    · show (match st[n]? with | some (.ref a) => (match (hOf Ty s)[a]? with | some (c, _) => if c = ci ∧ ((st.drop (n + 1)).map fun v : Value => v.category).sum ≤ 8 then some (k1, Value.ref a :: (st.take n).reverse, st.drop (n + 1)) else none | none => none) | _ => none) = _
      rw [hr]
      show (match (hOf Ty s)[x]? with | some (c, _) => if c = ci ∧ ((st.drop (n + 1)).map fun v : Value => v.category).sum ≤ 8 then some (k1, Value.ref x :: (st.take n).reverse, st.drop (n + 1)) else none | none => none) = _
      rw [hOf_get ha]
      show (if (sT s x).1 = ci ∧ ((st.drop (n + 1)).map fun v : Value => v.category).sum ≤ 8 then some (k1, Value.ref x :: (st.take n).reverse, st.drop (n + 1)) else none) = _
      rw [if_pos ⟨by rw [hT], h.1⟩]
  · cases hx
theorem A.c {k1 : Nat} {ls1 : xL} {r : List Value} {v : Option Value} {s1 : aS} (h : gC P Cs K k i ls st (hOf Ty s) = some (k1, ls1, r)) (h1 : A P Cs K Ty d k1 0 ls1 [] s (.inl v, s1)) (g : A P Cs K Ty (d + 1) k (i + 1) ls (v.toList ++ r) s1 o) : A P Cs K Ty (d + 1) k i ls st s o := G.c h h1 g
theorem A.h {k1 z t : Nat} {ls1 : xL} {r : List Value} {s1 : aS} (h : gC P Cs K k i ls st (hOf Ty s) = some (k1, ls1, r)) (h1 : A P Cs K Ty d k1 0 ls1 [] s (.inr z, s1)) (ht : gH P k i z = some t) (g : A P Cs K Ty (d + 1) k t ls [.ref (sL s1 - 1)] s1 o) : A P Cs K Ty (d + 1) k i ls st s o := by
  refine G.h h h1 ht ?_
  rw [hOf_len]
  exact g
end AR
end
section
/-! runs that keep the lay of the cells; small means to take a printed function apart -/
abbrev aK (s : aS) (a c : Nat) : Prop := a < sL s ∧ (sT s a).1 = c
/-- s1 is s with more cells, and with other contents only where G allows it; more cells only if G allows the next one -/
def ext (G : Nat → Bool) (s s1 : aS) : Prop := sL s ≤ sL s1 ∧ (∀ a, a < sL s → sT s1 a = sT s a) ∧ (∀ a, a < sL s → G a = false → (∀ k, sI s1 a k = sI s a k) ∧ (∀ k, sR s1 a k = sR s a k) ∧ ∀ k, sJ s1 a k = sJ s a k) ∧ (G (sL s) = false → sL s1 = sL s)
theorem ext.refl (G : Nat → Bool) (s : aS) : ext G s s := ⟨Nat.le_refl _, fun _ _ => rfl, fun _ _ _ => ⟨fun _ => rfl, fun _ => rfl, fun _ => rfl⟩, fun _ => rfl⟩
theorem ext.trans {G : Nat → Bool} {s s1 s2 : aS} (h : ext G s s1) (g : ext G s1 s2) : ext G s s2 := by
  obtain ⟨h1, h2, h3, h4⟩ := h
  obtain ⟨g1, g2, g3, g4⟩ := g
  refine ⟨Nat.le_trans h1 g1, fun a ha => (g2 a (Nat.lt_of_lt_of_le ha h1)).trans (h2 a ha), fun a ha hG => ?_, fun hG => ?_⟩
  · obtain ⟨a1, a2, a3⟩ := h3 a ha hG
    obtain ⟨b1, b2, b3⟩ := g3 a (Nat.lt_of_lt_of_le ha h1) hG
    exact ⟨fun k => (b1 k).trans (a1 k), fun k => (b2 k).trans (a2 k), fun k => (b3 k).trans (a3 k)⟩
  · have e := h4 hG
    rw [g4 (by rw [e]; exact hG), e]
theorem ext.k {G : Nat → Bool} {s s1 : aS} {a c : Nat} (h : ext G s s1) (g : aK s a c) : aK s1 a c := ⟨Nat.lt_of_lt_of_le g.1 h.1, by rw [h.2.1 a g.1]; exact g.2⟩
/-- E: cells 78 .. that are laid by the constructors (their kinds and lengths Tt, their references Rt), the lay of letters (1), trees (3) and texts (70); what lies below K is as it was (tt, cc) -/
def Lay (K E : Nat) (Tt : List (Nat × Nat)) (Rt : List (Nat × Nat × Nat)) (tt : Nat → Nat × Nat) (cc : Nat → Nat → Int32) (s : aS) : Prop :=
  E ≤ sL s ∧ K ≤ E ∧ (∀ (j : Nat) (p : Nat × Nat), Tt[j]? = some p → sT s (K + j) = p) ∧ (∀ (j : Nat) (q : Nat × Nat × Nat), Rt[j]? = some q → sR s q.1 q.2.1 = .ref q.2.2) ∧
  (∀ b, aK s b 1 → sT s b = (1, 2) ∧ sR s b 0 = .ref (b + 1) ∧ b + 1 < sL s ∧ (sT s (b + 1)).1 = 102 ∧ K ≤ b) ∧
  (∀ b, aK s b 3 → sT s b = (3, 3) ∧ sR s b 0 = .ref (b + 1) ∧ sR s b 1 = .ref (b + 2) ∧ b + 3 < sL s ∧ sT s (b + 1) = (100, 1408) ∧ sT s (b + 2) = (1, 2) ∧ sT s (b + 3) = (102, 256) ∧ K ≤ b) ∧
  (∀ b, aK s b 70 → sT s b = (70, 2) ∧ sR s b 0 = .ref (b + 1) ∧ b + 1 < sL s ∧ (sT s (b + 1)).1 = 101 ∧ b + 1 < K) ∧
  (∀ a, a < K → sT s a = tt a) ∧ (∀ a k, a < K → sI s a k = cc a k)
section LY
variable {K E : Nat} {Tt : List (Nat × Nat)} {Rt : List (Nat × Nat × Nat)} {tt : Nat → Nat × Nat} {cc : Nat → Nat → Int32} {s : aS}
theorem Lay.lt {a : Nat} (h : Lay K E Tt Rt tt cc s) (ha : a < E) : a < sL s := Nat.lt_of_lt_of_le ha h.1
theorem Lay.T {a : Nat} {p : Nat × Nat} (h : Lay K E Tt Rt tt cc s) (j : Nat) (hj : Tt[j]? = some p) (ha : K + j = a) : sT s a = p := ha ▸ h.2.2.1 j p hj
theorem Lay.R {a k b : Nat} (h : Lay K E Tt Rt tt cc s) (j : Nat) (hj : Rt[j]? = some (a, k, b)) : sR s a k = .ref b := h.2.2.2.1 j _ hj
theorem Lay.Kd {a c n : Nat} (h : Lay K E Tt Rt tt cc s) (j : Nat) (hj : Tt[j]? = some (c, n)) (ha : K + j = a) (hE : a < E) : aK s a c := ⟨h.lt hE, by rw [h.T j hj ha]⟩
theorem Lay.le {b : Nat} (h : Lay K E Tt Rt tt cc s) (hb : aK s b 1) : sT s b = (1, 2) ∧ sR s b 0 = .ref (b + 1) ∧ b + 1 < sL s ∧ (sT s (b + 1)).1 = 102 ∧ K ≤ b := h.2.2.2.2.1 b hb
theorem Lay.tr {b : Nat} (h : Lay K E Tt Rt tt cc s) (hb : aK s b 3) : sT s b = (3, 3) ∧ sR s b 0 = .ref (b + 1) ∧ sR s b 1 = .ref (b + 2) ∧ b + 3 < sL s ∧ sT s (b + 1) = (100, 1408) ∧ sT s (b + 2) = (1, 2) ∧ sT s (b + 3) = (102, 256) ∧ K ≤ b := h.2.2.2.2.2.1 b hb
theorem Lay.tx {b : Nat} (h : Lay K E Tt Rt tt cc s) (hb : aK s b 70) : sT s b = (70, 2) ∧ sR s b 0 = .ref (b + 1) ∧ b + 1 < sL s ∧ (sT s (b + 1)).1 = 101 ∧ b + 1 < K := h.2.2.2.2.2.2.1 b hb
theorem Lay.leK {b : Nat} (h : Lay K E Tt Rt tt cc s) (hb : aK s b 3) : aK s (b + 2) 1 := ⟨by have := (h.tr hb).2.2.2.1; omega, by rw [(h.tr hb).2.2.2.2.2.1]⟩
theorem pr2 {α β : Type} {p : α × β} {a : α} (h : p.1 = a) : p = (a, p.2) := by subst h; rfl
theorem Lay.wId {a k : Nat} {v : Int32} (h : Lay K E Tt Rt tt cc s) (ha : K ≤ a) : Lay K E Tt Rt tt cc (wI s a k v) := by
  obtain ⟨h1, h2, h3, h4, h5, h6, h7, h8, h9⟩ := h
  exact ⟨h1, h2, h3, h4, h5, h6, h7, h8, fun b j hb => (fu_ne (fun q => by omega)).trans (h9 b j hb)⟩
theorem Lay.wJd {a k : Nat} {v : Int64} (h : Lay K E Tt Rt tt cc s) : Lay K E Tt Rt tt cc (wJ s a k v) := by
  obtain ⟨h1, h2, h3, h4, h5, h6, h7, h8, h9⟩ := h
  exact ⟨h1, h2, h3, h4, h5, h6, h7, h8, h9⟩
theorem Lay.wRd {a k c n : Nat} {v : Value} (h : Lay K E Tt Rt tt cc s) (hT : sT s a = (c, n)) (hc : c ≠ 1 ∧ c ≠ 3 ∧ c ≠ 70) (hn : Rt.all (fun q => !(q.1 == a && q.2.1 == k)) = true) : Lay K E Tt Rt tt cc (wR s a k v) := by
  obtain ⟨h1, h2, h3, h4, h5, h6, h7, h8, h9⟩ := h
  have hne : ∀ b c', aK s b c' → c' ≠ c → ∀ j, ¬ (b = a ∧ j = k) := by
    rintro b c' hb hcc j ⟨rfl, -⟩
    rw [aK, hT] at hb
    exact hcc hb.2.symm
  refine ⟨h1, h2, h3, fun j q hq => ?_, fun b hb => ?_, fun b hb => ?_, fun b hb => ?_, h8, h9⟩
  · have h := List.all_eq_true.mp hn q (List.mem_of_getElem? hq)
    refine (fu_ne (fun e => ?_)).trans (h4 j q hq)
    simp [e.1, e.2] at h
  · obtain ⟨g1, g2, g3⟩ := h5 b hb
    exact ⟨g1, (fu_ne (hne b 1 hb (Ne.symm hc.1) 0)).trans g2, g3⟩
  · obtain ⟨g1, g2, g3, g4⟩ := h6 b hb
    exact ⟨g1, (fu_ne (hne b 3 hb (Ne.symm hc.2.1) 0)).trans g2, (fu_ne (hne b 3 hb (Ne.symm hc.2.1) 1)).trans g3, g4⟩
  · obtain ⟨g1, g2, g3⟩ := h7 b hb
    exact ⟨g1, (fu_ne (hne b 70 hb (Ne.symm hc.2.2) 0)).trans g2, g3⟩
theorem Lay.nwd {c n : Nat} (h : Lay K E Tt Rt tt cc s) (hT : ∀ (j : Nat) (p : Nat × Nat), Tt[j]? = some p → K + j < E) (hR : ∀ (j : Nat) (q : Nat × Nat × Nat), Rt[j]? = some q → q.1 < E) (hc : c ≠ 1 ∧ c ≠ 3 ∧ c ≠ 70) : Lay K E Tt Rt tt cc (nw s c n) := by
  obtain ⟨h1, h2, h3, h4, h5, h6, h7, h8, h9⟩ := h
  have hn : ∀ b c', aK (nw s c n) b c' → c' ≠ c → b < sL s ∧ aK s b c' := by
    rintro b c' ⟨hb1, hb2⟩ hcc
    have hb1 : b < sL s + 1 := hb1
    by_cases e : b = sL s
    · subst e
      rw [show sT (nw s c n) (sL s) = (c, n) from if_pos rfl] at hb2
      exact absurd hb2.symm hcc
    · rw [show sT (nw s c n) b = sT s b from if_neg e] at hb2
      exact ⟨by omega, by omega, hb2⟩
  have hs : ∀ b, b < sL s → sT (nw s c n) b = sT s b := fun b hb => if_neg (by omega)
  have hr : ∀ b j, b < sL s → sR (nw s c n) b j = sR s b j := fun b j hb => if_neg (by omega)
  have hi : ∀ b j, b < sL s → sI (nw s c n) b j = sI s b j := fun b j hb => if_neg (by omega)
  have hl : sL (nw s c n) = sL s + 1 := rfl
  refine ⟨by omega, h2, fun j p hp => ?_, fun j q hq => ?_, fun b hb => ?_, fun b hb => ?_, fun b hb => ?_, fun a ha => ?_, fun a k ha => ?_⟩
  · rw [hs _ (by have := hT j p hp; omega)]; exact h3 j p hp
  · rw [hr _ _ (by have := hR j q hq; omega)]; exact h4 j q hq
  · obtain ⟨e, hb⟩ := hn b 1 hb (Ne.symm hc.1)
    obtain ⟨g1, g2, g3, g4, g5⟩ := h5 b hb
    exact ⟨by rw [hs b e]; exact g1, by rw [hr b _ e]; exact g2, by omega, by rw [hs _ g3]; exact g4, g5⟩
  · obtain ⟨e, hb⟩ := hn b 3 hb (Ne.symm hc.2.1)
    obtain ⟨g1, g2, g3, g4, g5, g6, g7, g8⟩ := h6 b hb
    exact ⟨by rw [hs b e]; exact g1, by rw [hr b _ e]; exact g2, by rw [hr b _ e]; exact g3, by omega, by rw [hs _ (by omega)]; exact g5, by rw [hs _ (by omega)]; exact g6, by rw [hs _ (by omega)]; exact g7, g8⟩
  · obtain ⟨e, hb⟩ := hn b 70 hb (Ne.symm hc.2.2)
    obtain ⟨g1, g2, g3, g4, g5⟩ := h7 b hb
    exact ⟨by rw [hs b e]; exact g1, by rw [hr b _ e]; exact g2, by omega, by rw [hs _ g3]; exact g4, g5⟩
  · rw [hs a (by omega)]; exact h8 a ha
  · rw [hi a k (by omega)]; exact h9 a k ha
end LY
theorem ext_wI {G : Nat → Bool} (s : aS) (a k : Nat) (v : Int32) (hg : G a = true) : ext G s (wI s a k v) := ⟨Nat.le_refl _, fun _ _ => rfl, fun b _ hb => ⟨fun j => if_neg (fun e => by rw [e.1, hg] at hb; cases hb), fun _ => rfl, fun _ => rfl⟩, fun _ => rfl⟩
theorem ext_wR {G : Nat → Bool} (s : aS) (a k : Nat) (v : Value) (hg : G a = true) : ext G s (wR s a k v) := ⟨Nat.le_refl _, fun _ _ => rfl, fun b _ hb => ⟨fun _ => rfl, fun j => if_neg (fun e => by rw [e.1, hg] at hb; cases hb), fun _ => rfl⟩, fun _ => rfl⟩
theorem ext_wJ {G : Nat → Bool} (s : aS) (a k : Nat) (v : Int64) (hg : G a = true) : ext G s (wJ s a k v) := ⟨Nat.le_refl _, fun _ _ => rfl, fun b _ hb => ⟨fun _ => rfl, fun _ => rfl, fun j => if_neg (fun e => by rw [e.1, hg] at hb; cases hb)⟩, fun _ => rfl⟩
theorem ext_nw {G : Nat → Bool} (s : aS) (c n : Nat) (hg : G (sL s) = true) : ext G s (nw s c n) := ⟨Nat.le_succ _, fun a ha => if_neg (by omega), fun a ha _ => ⟨fun j => if_neg (by omega), fun j => if_neg (by omega), fun j => if_neg (by omega)⟩, fun h => by rw [hg] at h; cases h⟩
/-- means of the printed functions -/
def bu {α β : Type} (x : Option α) (f : α → Option β) : Option β := match x with
  | none => none
  | some a => f a
def bv {α β γ : Type} (x : Option (α × β)) (f : α → β → Option γ) : Option γ := match x with
  | none => none
  | some (a, b) => f a b
def nx {α β : Type} (v : α) (f : α → Option β) : Option β := f v
def vR {β : Type} (v : Value) (f : Nat → Option β) : Option β := match v with
  | .ref b => f b
  | _ => none
def vN {β : Type} (v : Value) (x : Option β) (f : Nat → Option β) : Option β := match v with
  | .null => x
  | .ref b => f b
  | _ => none
def zN {β : Type} (z : xZ) (f : Option Value → Option β) (g : Nat → Option β) : Option β := match z with
  | .inl v => f v
  | .inr e => g e
theorem bu_so {α β : Type} {x : Option α} {f : α → Option β} {o : β} (h : bu x f = some o) : ∃ a, x = some a ∧ f a = some o := by
  cases x with
  | none => cases h
  | some a => exact ⟨a, rfl, h⟩
theorem bv_so {α β γ : Type} {x : Option (α × β)} {f : α → β → Option γ} {o : γ} (h : bv x f = some o) : ∃ a b, x = some (a, b) ∧ f a b = some o := by
  cases x with
  | none => cases h
  | some a => exact ⟨a.1, a.2, rfl, h⟩
theorem nx_so {α β : Type} {v : α} {f : α → Option β} {o : β} (h : nx v f = some o) : ∃ a, a = v ∧ f a = some o := ⟨v, rfl, h⟩
theorem vR_so {β : Type} {v : Value} {f : Nat → Option β} {o : β} (h : vR v f = some o) : ∃ b, v = .ref b ∧ f b = some o := by
  unfold vR at h
  split at h
  · exact ⟨_, rfl, h⟩
  · cases h
theorem vN_so {β : Type} {v : Value} {x : Option β} {f : Nat → Option β} {o : β} (h : vN v x f = some o) : (v = .null ∧ x = some o) ∨ ∃ b, v = .ref b ∧ f b = some o := by
  unfold vN at h
  split at h
  · exact Or.inl ⟨rfl, h⟩
  · exact Or.inr ⟨_, rfl, h⟩
  · cases h
theorem zN_so {β : Type} {z : xZ} {f : Option Value → Option β} {g : Nat → Option β} {o : β} (h : zN z f g = some o) : (∃ v, z = .inl v ∧ f v = some o) ∨ ∃ e, z = .inr e ∧ g e = some o := by
  cases z with
  | inl v => exact Or.inl ⟨v, rfl, h⟩
  | inr e => exact Or.inr ⟨e, rfl, h⟩
theorem ite_so {β : Type} {c : Prop} [Decidable c] {x : Option β} {o : β} (h : (if c then x else none) = some o) : c ∧ x = some o := by
  by_cases hc : c
  · rw [if_pos hc] at h; exact ⟨hc, h⟩
  · rw [if_neg hc] at h; cases h
theorem fit1 {x : Int32} (h : x = 0 ∨ x = 1) : xfit 1 (.int x) = true := by
  rcases h with rfl | rfl <;> rfl
theorem fit4 {x : Int32} (h : 0 ≤ x ∧ x ≤ 65535) : xfit 4 (.int x) = true := by
  show (decide (0 ≤ x) && decide (x ≤ 65535)) = true
  rw [decide_eq_true h.1, decide_eq_true h.2]
  rfl
theorem fit5 {x : Int32} (h : -128 ≤ x ∧ x ≤ 127) : xfit 5 (.int x) = true := by
  show (decide (-128 ≤ x) && decide (x ≤ 127)) = true
  rw [decide_eq_true h.1, decide_eq_true h.2]
  rfl
/-- a switch by equality with numbers -/
theorem i32_ne {x : Int32} {n : Int} (h : ¬ x = Int32.ofInt n) (hn : -2147483648 ≤ n ∧ n ≤ 2147483647) : x.toInt ≠ n := by
  intro e
  apply h
  apply Int32.toInt_inj.mp
  rw [Int32.toInt_ofInt_of_le (by omega) (by omega)]
  exact e
end
section
/-! printed by wip/whole/tools/dec.py: where the cells lie -/
def zTy : List (List Nat) := [[2, 2, 2, 2, 2, 2, 2], [2, 0], [2, 2, 0], [2, 2, 0], [2, 2, 2, 2, 2, 2, 2, 0, 0, 0, 0, 0, 0], [0, 0, 0, 0], [2, 2, 0], [2, 2, 2, 0], [2, 2, 2, 2, 0, 2, 0, 0, 0, 0, 0], [0, 0, 2, 0, 2, 2, 2, 2, 2, 2, 2, 2, 2, 2, 2, 2, 2, 2, 2, 2, 2, 0, 2, 2, 2, 2, 0, 0, 2, 0, 2, 2, 0, 0, 0, 0, 0, 2, 0, 0, 0, 0, 0, 0, 0]]
def zE : Nat := 149
def zTt : List (Nat × Nat) := [(0, 7), (1, 2), (102, 256), (2, 3), (111, 8), (103, 8), (1, 2), (102, 31), (1, 2), (102, 31), (1, 2), (102, 31), (1, 2), (102, 31), (1, 2), (102, 31), (1, 2), (102, 31), (1, 2), (102, 31), (1, 2), (102, 31), (113, 8), (100, 8), (3, 3), (100, 1408), (1, 2), (102, 256), (4, 13), (1, 2), (102, 256), (5, 4), (6, 3), (100, 128), (100, 128), (7, 4), (100, 32), (100, 32), (100, 32), (8, 11), (100, 128), (100, 128), (103, 128), (9, 45), (100, 256), (100, 8), (100, 256), (103, 8), (100, 8), (100, 9), (100, 1152), (100, 1152), (100, 1152), (100, 1152), (100, 1152), (100, 1152), (100, 1152), (100, 1152), (100, 1152), (100, 1152), (100, 1152), (100, 2304), (100, 128), (100, 128), (100, 128), (100, 128), (100, 130), (100, 300), (100, 300), (100, 256), (104, 1)]
def zRt : List (Nat × Nat × Nat) := [(78, 0, 79), (78, 1, 81), (78, 2, 100), (78, 3, 101), (78, 4, 106), (78, 5, 117), (81, 0, 82), (81, 1, 83), (106, 0, 79), (106, 1, 81), (106, 2, 107), (106, 3, 109), (106, 4, 110), (106, 5, 113), (110, 0, 111), (110, 1, 112), (113, 0, 114), (113, 1, 115), (113, 2, 116), (117, 0, 81), (117, 1, 118), (117, 2, 119), (117, 3, 120), (121, 2, 122), (121, 4, 123), (121, 5, 124), (121, 6, 125), (121, 7, 126), (121, 8, 127), (121, 9, 128), (121, 10, 129), (121, 11, 130), (121, 12, 131), (121, 13, 132), (121, 14, 133), (121, 15, 134), (121, 16, 135), (121, 17, 136), (121, 18, 137), (121, 19, 138), (121, 20, 139), (121, 22, 140), (121, 23, 141), (121, 24, 142), (121, 25, 143), (121, 28, 144), (121, 30, 145), (121, 31, 146), (121, 37, 147), (82, 0, 84), (82, 1, 86), (82, 2, 88), (82, 3, 90), (82, 4, 92), (82, 5, 94), (82, 6, 96), (82, 7, 98)]
def zTz : List (Nat × Nat) := [(100, 0), (70, 2), (101, 23), (70, 2), (101, 26), (70, 2), (101, 7), (70, 2), (101, 45), (70, 2), (101, 18), (70, 2), (101, 4), (70, 2), (101, 5), (70, 2), (101, 22), (70, 2), (101, 44), (70, 2), (101, 33), (70, 2), (101, 6), (70, 2), (101, 7), (70, 2), (101, 7), (70, 2), (101, 5), (70, 2), (101, 6), (70, 2), (101, 5), (70, 2), (101, 4), (70, 2), (101, 28), (70, 2), (101, 38), (70, 2), (101, 24), (70, 2), (101, 4), (70, 2), (101, 5), (70, 2), (101, 1), (70, 2), (101, 1), (70, 2), (101, 1), (70, 2), (101, 1), (70, 2), (101, 1), (70, 2), (101, 1), (70, 2), (101, 1), (70, 2), (101, 1), (70, 2), (101, 2), (70, 2), (101, 1), (70, 2), (101, 1), (70, 2), (101, 2), (70, 2), (101, 2), (70, 2), (101, 32), (70, 2), (101, 18), (70, 2), (101, 18), (99, 0)]
def zTt0 (n a : Nat) : Nat × Nat := if a = 0 then (100, n) else zTz.getD a (0, 0)
/-- the one constant of which nothing is known: nothing, or the last cell -/
def sv (b : Bool) : Value := if b = true then .null else .ref (zK - 1)
abbrev Ly (tt : Nat) (cc : Nat → Nat → Int32) (s : aS) : Prop := Lay zK zE zTt zRt (zTt0 tt) cc s
set_option maxRecDepth 100000 in
theorem Lay.lowT {tt : Nat} {cc : Nat → Nat → Int32} {s : aS} {a : Nat} (h : Ly tt cc s) (ha : a < zK) : sT s a = zTt0 tt a := h.2.2.2.2.2.2.2.1 a ha
set_option maxRecDepth 100000 in
theorem Lay.t0 {tt : Nat} {cc : Nat → Nat → Int32} {s : aS} (h : Ly tt cc s) : sT s 0 = (100, (sT s 0).2) := by rw [h.lowT (show 0 < zK by decide)]; rfl
set_option maxRecDepth 100000 in
theorem Lay.lowK {tt : Nat} {cc : Nat → Nat → Int32} {s : aS} {a c : Nat} (h : Ly tt cc s) (ha : a < zK) (h2 : a ≠ 0 ∧ (zTz.getD a (0, 0)).1 = c) : aK s a c := ⟨h.lt (Nat.lt_of_lt_of_le ha h.2.1), by rw [h.lowT ha]; unfold zTt0; rw [if_neg h2.1]; exact h2.2⟩
set_option maxRecDepth 100000 in
theorem lay_names {tt : Nat} {cc : Nat → Nat → Int32} {s : aS} {j : Nat} (h : Ly tt cc s) (hj : j < 8) : aK s (84 + 2 * j) 1 ∧ sR s 82 j = .ref (84 + 2 * j) := by
  match j, hj with
  | 0, _ => exact ⟨h.Kd (n := 2) (6 + 0) rfl rfl (by decide), h.R (49 + 0) rfl⟩
  | 1, _ => exact ⟨h.Kd (n := 2) (6 + 2) rfl rfl (by decide), h.R (49 + 1) rfl⟩
  | 2, _ => exact ⟨h.Kd (n := 2) (6 + 4) rfl rfl (by decide), h.R (49 + 2) rfl⟩
  | 3, _ => exact ⟨h.Kd (n := 2) (6 + 6) rfl rfl (by decide), h.R (49 + 3) rfl⟩
  | 4, _ => exact ⟨h.Kd (n := 2) (6 + 8) rfl rfl (by decide), h.R (49 + 4) rfl⟩
  | 5, _ => exact ⟨h.Kd (n := 2) (6 + 10) rfl rfl (by decide), h.R (49 + 5) rfl⟩
  | 6, _ => exact ⟨h.Kd (n := 2) (6 + 12) rfl rfl (by decide), h.R (49 + 6) rfl⟩
  | 7, _ => exact ⟨h.Kd (n := 2) (6 + 14) rfl rfl (by decide), h.R (49 + 7) rfl⟩
set_option maxRecDepth 100000 in
theorem lay_noR (k : Nat) : zRt.all (fun q => !(q.1 == 100 && q.2.1 == k)) = true := by
  have h : ∀ q ∈ zRt, q.1 ≠ 100 := by decide
  refine List.all_eq_true.mpr fun q hq => ?_
  have := h q hq
  simp [this]
set_option maxRecDepth 100000 in
theorem lay_sm1 : ∀ (j : Nat) (p : Nat × Nat), zTt[j]? = some p → zK + j < zE := by
  intro j p h
  have h1 := (List.getElem?_eq_some_iff.mp h).1
  have h2 : zK + zTt.length = zE := by decide
  omega
set_option maxRecDepth 100000 in
theorem lay_sm2 : ∀ (j : Nat) (q : Nat × Nat × Nat), zRt[j]? = some q → q.1 < zE := by
  intro j q h
  have h2 : ∀ q ∈ zRt, q.1 < zE := by decide
  exact h2 q (List.mem_of_getElem? h)
/-- where who may write: 1 FormulaTrees and its wrappers, 2 the reference, 0 the law -/
def zG (f a : Nat) : Bool := match f with
  | 0 => true
  | 1 => decide (a < 121) || decide (148 ≤ a)
  | _ => decide (121 ≤ a) && decide (a < 148)
set_option maxRecDepth 100000 in
theorem zG1_of {a : Nat} (h : a < 121 ∨ 148 ≤ a) : zG 1 a = true := by
  show (decide (a < 121) || decide (148 ≤ a)) = true
  rcases h with h | h <;> simp [h]
set_option maxRecDepth 100000 in
theorem Lay.gL {tt : Nat} {cc : Nat → Nat → Int32} {s : aS} (h : Ly tt cc s) : zG 1 (sL s) = true := zG1_of (Or.inr (Nat.le_trans (by decide) h.1))
set_option maxRecDepth 100000 in
theorem Lay.gN {tt : Nat} {cc : Nat → Nat → Int32} {s : aS} {a : Nat} {p : Nat × Nat} (h : Ly tt cc s) (hT : sT s a = p) (hn : ∀ q ∈ zTt.drop (121 - zK), q ≠ p) : zG 1 a = true := by
  apply zG1_of
  by_cases h1 : a < 121
  · exact Or.inl h1
  · by_cases h2 : 148 ≤ a
    · exact Or.inr h2
    · exfalso
      have hj : (zTt.drop (121 - zK))[a - 121]? = some (sT s a) := by
        have hlt : a - zK < zTt.length := by
          have : zTt.length = zE - zK := by decide
          have : zE = 148 + 1 := by decide
          have : zK ≤ 121 := by decide
          omega
        obtain ⟨q, hq⟩ : ∃ q, zTt[a - zK]? = some q := ⟨_, List.getElem?_eq_getElem hlt⟩
        have hz : zK ≤ 121 := by decide
        rw [List.getElem?_drop, show 121 - zK + (a - 121) = a - zK by omega, hq, h.T (a - zK) hq (by omega)]
      exact hn _ (List.mem_of_getElem? hj) hT
set_option maxRecDepth 100000 in
theorem Lay.g1 {tt : Nat} {cc : Nat → Nat → Int32} {s : aS} {b : Nat} (h : Ly tt cc s) (hb : aK s b 1) : zG 1 b = true := h.gN (h.le hb).1 (by decide)
set_option maxRecDepth 100000 in
theorem Lay.g1b {tt : Nat} {cc : Nat → Nat → Int32} {s : aS} {b : Nat} (h : Ly tt cc s) (hb : aK s b 1) : zG 1 (b + 1) = true := by
  have h1 := (h.le hb).2.2.2.1
  refine h.gN (p := sT s (b + 1)) rfl fun q hq e => ?_
  have h2 : ∀ q ∈ zTt.drop (121 - zK), q.1 ≠ 102 := by decide
  exact h2 q hq (by rw [e]; exact h1)
set_option maxRecDepth 100000 in
theorem Lay.g3 {tt : Nat} {cc : Nat → Nat → Int32} {s : aS} {b : Nat} (h : Ly tt cc s) (hb : aK s b 3) : zG 1 b = true := h.gN (h.tr hb).1 (by decide)
set_option maxRecDepth 100000 in
theorem Lay.g3a {tt : Nat} {cc : Nat → Nat → Int32} {s : aS} {b : Nat} (h : Ly tt cc s) (hb : aK s b 3) : zG 1 (b + 1) = true := h.gN (h.tr hb).2.2.2.2.1 (by decide)
set_option maxRecDepth 100000 in
theorem Lay.g3b {tt : Nat} {cc : Nat → Nat → Int32} {s : aS} {b : Nat} (h : Ly tt cc s) (hb : aK s b 3) : zG 1 (b + 2) = true := h.gN (h.tr hb).2.2.2.2.2.1 (by decide)
set_option maxRecDepth 100000 in
theorem Lay.g3c {tt : Nat} {cc : Nat → Nat → Int32} {s : aS} {b : Nat} (h : Ly tt cc s) (hb : aK s b 3) : zG 1 (b + 3) = true := h.gN (h.tr hb).2.2.2.2.2.2.1 (by decide)
def Q (f : Nat) (sio : Bool) (tt : Nat) (cc : Nat → Nat → Int32) (d k i : Nat) (ls : xL) (st : List Value) (s : aS) (o : xZ × aS) : Prop := Ly tt cc o.2 ∧ ext (zG f) s o.2 ∧ A zP (zCs (sv sio)) zK zTy d k i ls st s o
def vI {β : Type} (v : Option Value) (f : Int32 → Option β) : Option β := match v with
  | some (.int x) => f x
  | _ => none
def vV {β : Type} (v : Option Value) (x : Option β) : Option β := match v with
  | none => x
  | _ => none
set_option maxRecDepth 100000 in
theorem vI_so {β : Type} {v : Option Value} {f : Int32 → Option β} {o : β} (h : vI v f = some o) : ∃ x, v = some (.int x) ∧ f x = some o := by
  unfold vI at h
  split at h
  · exact ⟨_, rfl, h⟩
  · cases h
set_option maxRecDepth 100000 in
theorem vV_so {β : Type} {v : Option Value} {x : Option β} {o : β} (h : vV v x = some o) : v = none ∧ x = some o := by
  unfold vV at h
  split at h
  · exact ⟨rfl, h⟩
  · cases h
set_option maxRecDepth 100000 in
theorem gI_of {P : List xQ6} {k i : Nat} {M : xQ6} {e : xE} (hM : P[k]? = some M) (hE : M.2.2.2.2.2[i]? = some e) : gI P k i = some (e.2.2.1, e.2.2.2) := by
  unfold gI
  simp only [hM, hE]
section QR
variable {f : Nat} {sio : Bool} {tt : Nat} {cc : Nat → Nat → Int32} {d k i : Nat} {ls : xL} {st : List Value} {s s1 : aS} {o : xZ × aS}
set_option maxRecDepth 100000 in
theorem Q.map {d' i' : Nat} {ls' : xL} {st' : List Value} (f9 : A zP (zCs (sv sio)) zK zTy d' k i' ls' st' s o → A zP (zCs (sv sio)) zK zTy d k i ls st s o) (g : Q f sio tt cc d' k i' ls' st' s o) : Q f sio tt cc d k i ls st s o := ⟨g.1, g.2.1, f9 g.2.2⟩
set_option maxRecDepth 100000 in
theorem Q.mapw {i' : Nat} {ls' : xL} {st' : List Value} (hx : ext (zG f) s s1) (f9 : A zP (zCs (sv sio)) zK zTy d k i' ls' st' s1 o → A zP (zCs (sv sio)) zK zTy d k i ls st s o) (g : Q f sio tt cc d k i' ls' st' s1 o) : Q f sio tt cc d k i ls st s o := ⟨g.1, hx.trans g.2.1, f9 g.2.2⟩
set_option maxRecDepth 100000 in
theorem Q.run {M : xQ6} (hM : zP[k]? = some M) (n : Nat) {i' : Nat} {ls' : xL} {st' : List Value} (h : pRun (zCs (sv sio)) M.2.2.2.2.2 n i ls st = some (i', ls', st')) (g : Q f sio tt cc d k i' ls' st' s o) : Q f sio tt cc d k i ls st s o := Q.map (A.run hM n h) g
set_option maxRecDepth 100000 in
theorem Q.ret {r : xZ} (f9 : A zP (zCs (sv sio)) zK zTy d k i ls st s (r, s)) (hl : Ly tt cc s) : Q f sio tt cc d k i ls st s (r, s) := ⟨hl, ext.refl _ s, f9⟩
set_option maxRecDepth 100000 in
theorem Q.pf {q ci kk t n a : Nat} {rs : List Nat} {v : Int32} (hs : s1 = wI s a kk v) (hg : zG f a = true) (hi : gI zP k i = some (.putfield q, ci :: kk :: t :: rs)) (ha : a < sL s) (hK : zK ≤ a) (hT : sT s a = (ci, n)) (hk : kk < n) (ht : aTy zTy ci kk = 0) (hf : xfit t (.int v) = true) (g : Q f sio tt cc d k (i + 1) ls st s1 o) : Q f sio tt cc d k i ls (.int v :: .ref a :: st) s o := by
  subst hs; exact Q.mapw (ext_wI _ _ _ _ hg) (A.pf hi ha hK hT hk ht hf) g
set_option maxRecDepth 100000 in
theorem Q.pr {q ci kk t n a : Nat} {rs : List Nat} {v : Value} (hs : s1 = wR s a kk v) (hg : zG f a = true) (hi : gI zP k i = some (.putfield q, ci :: kk :: t :: rs)) (ha : a < sL s) (hK : zK ≤ a) (hT : sT s a = (ci, n)) (hk : kk < n) (ht : aTy zTy ci kk = 2) (hf : xfit t v = true) (g : Q f sio tt cc d k (i + 1) ls st s1 o) : Q f sio tt cc d k i ls (v :: .ref a :: st) s o := by
  subst hs; exact Q.mapw (ext_wR _ _ _ _ hg) (A.pr hi ha hK hT hk ht hf) g
set_option maxRecDepth 100000 in
theorem Q.is {a n : Nat} {j v : Int32} {ax : List Nat} (hs : s1 = wI s a (jN j) v) (hg : zG f a = true) (hi : gI zP k i = some (.iastore, ax)) (ha : a < sL s) (hK : zK ≤ a) (hT : sT s a = (100, n)) (hj : aB j n) (g : Q f sio tt cc d k (i + 1) ls st s1 o) : Q f sio tt cc d k i ls (.int v :: .int j :: .ref a :: st) s o := by
  subst hs; exact Q.mapw (ext_wI _ _ _ _ hg) (A.is hi ha hK hT hj) g
set_option maxRecDepth 100000 in
theorem Q.cs {a n : Nat} {j v : Int32} {ax : List Nat} (hs : s1 = wI s a (jN j) (nC v)) (hg : zG f a = true) (hi : gI zP k i = some (.castore, ax)) (ha : a < sL s) (hK : zK ≤ a) (hT : sT s a = (102, n)) (hj : aB j n) (g : Q f sio tt cc d k (i + 1) ls st s1 o) : Q f sio tt cc d k i ls (.int v :: .int j :: .ref a :: st) s o := by
  subst hs; exact Q.mapw (ext_wI _ _ _ _ hg) (A.cs hi ha hK hT hj) g
set_option maxRecDepth 100000 in
theorem Q.bs {a n : Nat} {j v : Int32} {ax : List Nat} (hs : s1 = wI s a (jN j) (v &&& 1)) (hg : zG f a = true) (hi : gI zP k i = some (.bastore, ax)) (ha : a < sL s) (hK : zK ≤ a) (hT : sT s a = (103, n)) (hj : aB j n) (g : Q f sio tt cc d k (i + 1) ls st s1 o) : Q f sio tt cc d k i ls (.int v :: .int j :: .ref a :: st) s o := by
  subst hs; exact Q.mapw (ext_wI _ _ _ _ hg) (A.bs hi ha hK hT hj) g
set_option maxRecDepth 100000 in
theorem Q.lS {a n : Nat} {j : Int32} {v : Int64} {ax : List Nat} (hs : s1 = wJ s a (jN j) v) (hg : zG f a = true) (hi : gI zP k i = some (.lastore, ax)) (ha : a < sL s) (hK : zK ≤ a) (hT : sT s a = (104, n)) (hj : aB j n) (g : Q f sio tt cc d k (i + 1) ls st s1 o) : Q f sio tt cc d k i ls (.long v :: .int j :: .ref a :: st) s o := by
  subst hs; exact Q.mapw (ext_wJ _ _ _ _ hg) (A.lS hi ha hK hT hj) g
set_option maxRecDepth 100000 in
theorem Q.as {a n b nb ci : Nat} {j : Int32} {rs : List Nat} (hs : s1 = wR s a (jN j) (.ref b)) (hg : zG f a = true) (hi : gI zP k i = some (.aastore, ci :: rs)) (ha : a < sL s) (hK : zK ≤ a) (hc : ci < 100) (hT : sT s a = (110 + ci, n)) (hb : b < sL s) (hTb : sT s b = (ci, nb)) (hj : aB j n) (g : Q f sio tt cc d k (i + 1) ls st s1 o) : Q f sio tt cc d k i ls (.ref b :: .int j :: .ref a :: st) s o := by
  subst hs; exact Q.mapw (ext_wR _ _ _ _ hg) (A.as hi ha hK hc hT hb hTb hj) g
set_option maxRecDepth 100000 in
theorem Q.t {M : xQ6} {a b q c z y : Nat} {rs : List Nat} (hM : zP[k]? = some M) (hE : M.2.2.2.2.2[i]? = some (a, b, .new q, c :: rs)) (hc : c = 200 + z) (hy : y = 80 + z) (hg : zG f (sL s) = true) (hd : 8 ≤ d) (hl : Ly tt cc s) : Q f sio tt cc (d + 1) k i ls [] s (.inr z, nw s y 0) := by
  subst hc; subst hy
  have h := A.t (d := d) (ls := ls) (s := s) (Ty := zTy) (Cs := zCs (sv sio)) (K := zK) hM hE (by omega) hd
  rw [show 200 + z - 200 = z by omega] at h
  exact ⟨hl.nwd lay_sm1 lay_sm2 ⟨by omega, by omega, by omega⟩, ext_nw _ _ _ hg, h⟩
set_option maxRecDepth 100000 in
theorem Q.call {k1 : Nat} {ls1 : xL} {r st2 : List Value} {v : Option Value} (h : gC zP (zCs (sv sio)) zK k i ls st (hOf zTy s) = some (k1, ls1, r)) (h1 : Q f sio tt cc d k1 0 ls1 [] s (.inl v, s1)) (he : v.toList ++ r = st2) (g : Q f sio tt cc (d + 1) k (i + 1) ls st2 s1 o) : Q f sio tt cc (d + 1) k i ls st s o := ⟨g.1, h1.2.1.trans g.2.1, A.c h h1.2.2 (by rw [he]; exact g.2.2)⟩
set_option maxRecDepth 100000 in
theorem Q.callI {k1 : Nat} {ls1 : xL} {r : List Value} {x : Int32} (h : gC zP (zCs (sv sio)) zK k i ls st (hOf zTy s) = some (k1, ls1, r)) (h1 : Q f sio tt cc d k1 0 ls1 [] s (.inl (some (.int x)), s1)) (g : Q f sio tt cc (d + 1) k (i + 1) ls (.int x :: r) s1 o) : Q f sio tt cc (d + 1) k i ls st s o := Q.call h h1 rfl g
set_option maxRecDepth 100000 in
theorem Q.callJ {k1 : Nat} {ls1 : xL} {r : List Value} {x : Int64} (h : gC zP (zCs (sv sio)) zK k i ls st (hOf zTy s) = some (k1, ls1, r)) (h1 : Q f sio tt cc d k1 0 ls1 [] s (.inl (some (.long x)), s1)) (g : Q f sio tt cc (d + 1) k (i + 1) ls (.long x :: r) s1 o) : Q f sio tt cc (d + 1) k i ls st s o := Q.call h h1 rfl g
set_option maxRecDepth 100000 in
theorem Q.callR {k1 : Nat} {ls1 : xL} {r : List Value} {v : Value} (h : gC zP (zCs (sv sio)) zK k i ls st (hOf zTy s) = some (k1, ls1, r)) (h1 : Q f sio tt cc d k1 0 ls1 [] s (.inl (some v), s1)) (g : Q f sio tt cc (d + 1) k (i + 1) ls (v :: r) s1 o) : Q f sio tt cc (d + 1) k i ls st s o := Q.call h h1 rfl g
set_option maxRecDepth 100000 in
theorem Q.callV {k1 : Nat} {ls1 : xL} {r : List Value} (h : gC zP (zCs (sv sio)) zK k i ls st (hOf zTy s) = some (k1, ls1, r)) (h1 : Q f sio tt cc d k1 0 ls1 [] s (.inl none, s1)) (g : Q f sio tt cc (d + 1) k (i + 1) ls r s1 o) : Q f sio tt cc (d + 1) k i ls st s o := Q.call h h1 rfl g
set_option maxRecDepth 100000 in
theorem Q.hc {k1 z t : Nat} {ls1 : xL} {r : List Value} (h : gC zP (zCs (sv sio)) zK k i ls st (hOf zTy s) = some (k1, ls1, r)) (h1 : Q f sio tt cc d k1 0 ls1 [] s (.inr z, s1)) (ht : gH zP k i z = some t) (g : Q f sio tt cc (d + 1) k t ls [.ref (sL s1 - 1)] s1 o) : Q f sio tt cc (d + 1) k i ls st s o := ⟨g.1, h1.2.1.trans g.2.1, A.h h h1.2.2 ht g.2.2⟩
set_option maxRecDepth 100000 in
theorem Q.w (h : Q f sio tt cc d k i ls st s o) : Q 0 sio tt cc d k i ls st s o := ⟨h.1, ⟨h.2.1.1, h.2.1.2.1, fun a _ (e : zG 0 a = false) => (by cases (show true = false from e)), fun (e : zG 0 (sL s) = false) => (by cases (show true = false from e))⟩, h.2.2⟩
end QR
section AM
variable {P : List xQ6} {Cs : List Value} {K : Nat} {Ty : List (List Nat)} {d k i : Nat} {ls : xL} {st : List Value} {s : aS} {o : xZ × aS}
set_option maxRecDepth 100000 in
theorem A.dv {ax : List Nat} {x y : Int32} (hi : gI P k i = some (.idiv, ax)) (hy : ¬ y = 0) (g : A P Cs K Ty d k (i + 1) ls (.int (x / y) :: st) s o) : A P Cs K Ty d k i ls (.int y :: .int x :: st) s o := A.ss hi (by
  show (match (if y = 0 then none else some (Value.int (x / y) :: st)) with | some st' => some (i + 1, ls, st') | none => _) = _
  rw [if_neg hy]) g
set_option maxRecDepth 100000 in
theorem A.rm {ax : List Nat} {x y : Int32} (hi : gI P k i = some (.irem, ax)) (hy : ¬ y = 0) (g : A P Cs K Ty d k (i + 1) ls (.int (x - x / y * y) :: st) s o) : A P Cs K Ty d k i ls (.int y :: .int x :: st) s o := A.ss hi (by
  show (match (if y = 0 then none else some (Value.int (x - x / y * y) :: st)) with | some st' => some (i + 1, ls, st') | none => _) = _
  rw [if_neg hy]) g
set_option maxRecDepth 100000 in
theorem gP_of {M : xQ6} {ins : Instr} {ax : List Nat} {a b : Nat} {st' : List Value} {hp hp' : xH} (hM : P[k]? = some M) (hE : M.2.2.2.2.2[i]? = some (a, b, ins, ax)) (h1 : x1 K ins ax i ls st hp = none) (h2 : xT Cs ins ax st = none) (h3 : xret M.2.2.2.1 ins st = none) (h4 : xsp K ins ax st hp = some (st', hp')) : gP P Cs K k i ls st hp = some (st', hp') := by
  unfold gP
  simp only [hM, hE, h1, h2, h3, h4]
set_option maxRecDepth 100000 in
theorem A.mx {M : xQ6} {a b q : Nat} {x y : Int32} (hM : P[k]? = some M) (hw : ((st.map fun v : Value => v.category).sum ≤ 8) = True) (hE : M.2.2.2.2.2[i]? = some (a, b, .invokestatic q, [3])) (g : A P Cs K Ty (d + 1) k (i + 1) ls (.int (if x < y then y else x) :: st) s o) : A P Cs K Ty (d + 1) k i ls (.int y :: .int x :: st) s o := G.p (gP_of hM hE rfl rfl (by unfold xret; rfl) (by
  show (if (st.map fun v : Value => v.category).sum ≤ 8 then some (Value.int (if x < y then y else x) :: st, hOf Ty s) else none) = _
  rw [if_pos (of_eq_true hw)])) g
set_option maxRecDepth 100000 in
theorem A.mn {M : xQ6} {a b q : Nat} {x y : Int32} (hM : P[k]? = some M) (hw : ((st.map fun v : Value => v.category).sum ≤ 8) = True) (hE : M.2.2.2.2.2[i]? = some (a, b, .invokestatic q, [4])) (g : A P Cs K Ty (d + 1) k (i + 1) ls (.int (if y < x then y else x) :: st) s o) : A P Cs K Ty (d + 1) k i ls (.int y :: .int x :: st) s o := G.p (gP_of hM hE rfl rfl (by unfold xret; rfl) (by
  show (if (st.map fun v : Value => v.category).sum ≤ 8 then some (Value.int (if y < x then y else x) :: st, hOf Ty s) else none) = _
  rw [if_pos (of_eq_true hw)])) g
end AM
/-- n places copied -/
def cpI (s : aS) (q sp d dp n : Nat) : aS := (s.1, s.2.1, fun a k => if a = d ∧ dp ≤ k ∧ k < dp + n then sI s q (sp + (k - dp)) else s.2.2.1 a k, s.2.2.2)
set_option maxRecDepth 100000 in
theorem Lay.cp {K E : Nat} {Tt : List (Nat × Nat)} {Rt : List (Nat × Nat × Nat)} {t9 : Nat → Nat × Nat} {cc : Nat → Nat → Int32} {s : aS} {q sp d dp n : Nat} (h : Lay K E Tt Rt t9 cc s) (hd : K ≤ d) : Lay K E Tt Rt t9 cc (cpI s q sp d dp n) := by
  obtain ⟨h1, h2, h3, h4, h5, h6, h7, h8, h9⟩ := h
  exact ⟨h1, h2, h3, h4, h5, h6, h7, h8, fun b j hb => (if_neg (fun e => by omega)).trans (h9 b j hb)⟩
section AN
variable {P : List xQ6} {Cs : List Value} {K : Nat} {Ty : List (List Nat)} {d k i : Nat} {ls : xL} {st : List Value} {s : aS} {o : xZ × aS}
set_option maxRecDepth 100000 in
theorem hOf_cp {q sp dd dp n nq nd : Nat} (ha : q < sL s) (hb : dd < sL s) (hq : sT s q = (100, nq)) (hd : sT s dd = (100, nd)) (h1 : sp + n ≤ nq) (h2 : dp + n ≤ nd) : (hOf Ty s).set dd ((aCell Ty s dd).1, (aCell Ty s dd).2.take dp ++ ((aCell Ty s q).2.drop sp).take n ++ (aCell Ty s dd).2.drop (dp + n)) = hOf Ty (cpI s q sp dd dp n) := by
  apply List.ext_getElem?
  intro b
  rw [List.getElem?_set]
  have hT : ∀ b, sT (cpI s q sp dd dp n) b = sT s b := fun _ => rfl
  by_cases hbl : b < sL s
  · rw [hOf_get (s := cpI s q sp dd dp n) (show b < sL s from hbl)]
    split
    · rename_i e
      subst e
      rw [if_pos (by rw [hOf_len]; exact hbl)]
      have hsl : ∀ (a : Nat) (t9 : aS) (j : Nat), sT t9 a = (100, j) → ∀ k, k < j → (aCell Ty t9 a).2[k]? = some (.int (sI t9 a k)) := by
        intro a t9 j h k hk
        rw [aCell_get (by rw [h]; exact hk), h]
        rfl
      have : (aCell Ty s dd).2.take dp ++ ((aCell Ty s q).2.drop sp).take n ++ (aCell Ty s dd).2.drop (dp + n) = (aCell Ty (cpI s q sp dd dp n) dd).2 := by
        have l1 : (aCell Ty s dd).2.length = nd := by rw [aCell_len, hd]
        have l2 : (aCell Ty s q).2.length = nq := by rw [aCell_len, hq]
        apply List.ext_getElem?
        intro j
        by_cases hj : j < nd
        · rw [hsl dd (cpI s q sp dd dp n) nd hd j hj]
          by_cases hj1 : j < dp
          · rw [List.append_assoc, List.getElem?_append_left (by simp; omega), List.getElem?_take_of_lt hj1, hsl dd s nd hd j hj]
            show _ = some (Value.int (if dd = dd ∧ dp ≤ j ∧ j < dp + n then _ else _))
            rw [if_neg (by omega)]
            rfl
          · by_cases hj2 : j < dp + n
            · rw [List.append_assoc, List.getElem?_append_right (by simp; omega), List.getElem?_append_left (by simp; omega)]
              simp only [List.length_take, l1]
              rw [List.getElem?_take_of_lt (by omega), List.getElem?_drop, hsl q s nq hq _ (by omega)]
              show _ = some (Value.int (if dd = dd ∧ dp ≤ j ∧ j < dp + n then _ else _))
              rw [if_pos ⟨rfl, by omega, hj2⟩, show sp + (j - min dp nd) = sp + (j - dp) by omega]
            · rw [List.getElem?_append_right (by simp; omega)]
              simp only [List.length_append, List.length_take, List.length_drop, l1, l2]
              rw [List.getElem?_drop, show dp + n + (j - (min dp nd + min n (nq - sp))) = j by omega, hsl dd s nd hd j hj]
              show _ = some (Value.int (if dd = dd ∧ dp ≤ j ∧ j < dp + n then _ else _))
              rw [if_neg (by omega)]
              rfl
        · rw [List.getElem?_eq_none (by simp [l1, l2]; omega), List.getElem?_eq_none (by rw [aCell_len, hT, hd]; omega)]
      rw [this]
      rfl
    · rename_i e
      rw [hOf_get hbl]
      have : aCell Ty s b = aCell Ty (cpI s q sp dd dp n) b := by
        unfold aCell
        rw [hT b]
        congr 1
        apply List.map_congr_left
        intro j _
        unfold aSlot
        have : sI (cpI s q sp dd dp n) b j = sI s b j := if_neg (fun h => e h.1.symm)
        rw [this]
        rfl
      rw [this]
  · rw [List.getElem?_eq_none (l := hOf Ty (cpI s q sp dd dp n)) (by rw [hOf_len]; exact Nat.not_lt.mp hbl)]
    split
    · rename_i e
      exact absurd (e ▸ hb) hbl
    · rw [List.getElem?_eq_none]
      rw [hOf_len]
      omega
set_option maxRecDepth 100000 in
theorem aA {ins : Instr} {ax : List Nat} {st' : List Value} {s' : aS} (hi : gI P k i = some (ins, ax)) (h1 : xS ins st = none) (h2 : xV ins ls st = none) (h3 : xB ins ax i st = none) (h4 : xR ins ax st (hOf Ty s) = none) (h5 : xW K ins ax st (hOf Ty s) = none) (h : xA ins ax st (hOf Ty s) = some (st', hOf Ty s')) (g : A P Cs K Ty d k (i + 1) ls st' s' o) : A P Cs K Ty d k i ls st s o := by
  refine G.s ?_ g
  unfold gS
  rw [hi]
  simp only [x1, h1, h2, h3, h4, h5, h]
set_option maxRecDepth 100000 in
theorem A.nwd {q ci : Nat} {ts : List Nat} (hi : gI P k i = some (.new q, ci :: ts)) (hc : ci < 80) (hts : (List.range ts.length).map (fun k => xdef (aTy Ty ci k)) = ts.map xdef) (g : A P Cs K Ty d k (i + 1) ls (.ref (sL s) :: st) (nw s ci ts.length) o) : A P Cs K Ty d k i ls st s o := by
  refine aA hi rfl rfl rfl rfl rfl ?_ g
  show (if ci < 80 then some (Value.ref (hOf Ty s).length :: st, hOf Ty s ++ [(ci, ts.map xdef)]) else none) = _
  rw [if_pos hc, hOf_len, ← hts, ← hOf_nw]
  simp only [nw_slot]
set_option maxRecDepth 100000 in
theorem rep_map {n : Nat} {v : Value} : (List.range n).map (fun _ => v) = List.replicate n v := by
  apply List.ext_getElem?
  intro j
  by_cases hj : j < n
  · rw [List.getElem?_map, List.getElem?_range hj, List.getElem?_replicate, if_pos hj]
    rfl
  · rw [List.getElem?_eq_none (by simp; omega), List.getElem?_eq_none (by simp; omega)]
set_option maxRecDepth 100000 in
theorem A.na {t : ArrayType} {ax : List Nat} {n : Int32} (hi : gI P k i = some (.newarray t, ax)) (hn : ¬ n < 0) (hn2 : jN n ≤ 100000) (ht : t = .int ∨ t = .char) (g : A P Cs K Ty d k (i + 1) ls (.ref (sL s) :: st) (nw s (xat2 t) (jN n)) o) : A P Cs K Ty d k i ls (.int n :: st) s o := by
  refine aA hi rfl rfl rfl rfl rfl ?_ g
  show (if ¬ n < 0 ∧ n.toNatClampNeg ≤ 100000 ∧ 100 ≤ xat2 t then some (Value.ref (hOf Ty s).length :: st, hOf Ty s ++ [(xat2 t, List.replicate n.toNatClampNeg (if t = .long then Value.long 0 else Value.int 0))]) else none) = _
  rw [if_pos ⟨hn, hn2, by rcases ht with rfl | rfl <;> decide⟩, hOf_len, ← hOf_nw]
  simp only [nw_slot]
  rcases ht with rfl | rfl
  · show some (_, _ ++ [((100 : Nat), List.replicate (jN n) (Value.int 0))]) = some (_, _ ++ [((100 : Nat), (List.range (jN n)).map fun k => Value.int 0)])
    rw [rep_map]
  · show some (_, _ ++ [((102 : Nat), List.replicate (jN n) (Value.int 0))]) = some (_, _ ++ [((102 : Nat), (List.range (jN n)).map fun k => Value.int 0)])
    rw [rep_map]
set_option maxRecDepth 100000 in
theorem A.oi {M : xQ6} {a b q x : Nat} (hM : P[k]? = some M) (hw : ((st.map fun v : Value => v.category).sum ≤ 8) = True) (hE : M.2.2.2.2.2[i]? = some (a, b, .invokespecial q, [1])) (g : A P Cs K Ty (d + 1) k (i + 1) ls st s o) : A P Cs K Ty (d + 1) k i ls (.ref x :: st) s o := G.p (gP_of hM hE rfl rfl (by unfold xret; rfl) (by
  show (if (st.map fun v : Value => v.category).sum ≤ 8 then some (st, hOf Ty s) else none) = _
  rw [if_pos (of_eq_true hw)])) g
end AN
set_option maxRecDepth 100000 in
theorem Q.ac {f : Nat} {sio : Bool} {tt : Nat} {cc : Nat → Nat → Int32} {d k i : Nat} {ls : xL} {s s1 : aS} {o : xZ × aS} {M : xQ6} {a b q sq sd nq nd : Nat} {n dp sp : Int32} (hs : s1 = cpI s sq (jN sp) sd (jN dp) (jN n)) (hg : zG f sd = true) (hM : zP[k]? = some M) (hE : M.2.2.2.2.2[i]? = some (a, b, .invokestatic q, [2])) (ha : sq < sL s) (hb : sd < sL s) (hK : zK ≤ sd) (hq : sT s sq = (100, nq)) (hd : sT s sd = (100, nd)) (hc : ¬ sq = sd ∧ ¬ sp < 0 ∧ ¬ dp < 0 ∧ ¬ n < 0 ∧ jN sp + jN n ≤ nq ∧ jN dp + jN n ≤ nd) (g : Q f sio tt cc (d + 1) k (i + 1) ls [] s1 o) : Q f sio tt cc (d + 1) k i ls [.int n, .int dp, .ref sd, .int sp, .ref sq] s o := by
  subst hs
  refine Q.mapw (s1 := cpI s sq (jN sp) sd (jN dp) (jN n)) ⟨Nat.le_refl _, fun _ _ => rfl, fun b _ hb => ⟨fun j => if_neg (fun e => by rw [e.1, hg] at hb; cases hb), fun _ => rfl, fun _ => rfl⟩, fun _ => rfl⟩ (fun g => G.p (gP_of hM hE rfl rfl (by unfold xret; rfl) ?_) g) g
  show (match (hOf zTy s)[sq]?, (hOf zTy s)[sd]? with | some (cq, vq), some (cd, vd) => if ((([] : List Value).map fun v : Value => v.category).sum ≤ 8 ∧ zK ≤ sd ∧ sq ≠ sd ∧ cq = 100 ∧ cd = 100 ∧ ¬ sp < 0 ∧ ¬ dp < 0 ∧ ¬ n < 0 ∧ sp.toNatClampNeg + n.toNatClampNeg ≤ vq.length ∧ dp.toNatClampNeg + n.toNatClampNeg ≤ vd.length ∧ ((vq.drop sp.toNatClampNeg).take n.toNatClampNeg).all (xfit 0) = true) then some (([] : List Value), (hOf zTy s).set sd (cd, vd.take dp.toNatClampNeg ++ (vq.drop sp.toNatClampNeg).take n.toNatClampNeg ++ vd.drop (dp.toNatClampNeg + n.toNatClampNeg))) else none | _, _ => none) = _
  rw [hOf_get ha, hOf_get hb]
  show (if _ then some (([] : List Value), (hOf zTy s).set sd ((aCell zTy s sd).1, (aCell zTy s sd).2.take (jN dp) ++ ((aCell zTy s sq).2.drop (jN sp)).take (jN n) ++ (aCell zTy s sd).2.drop (jN dp + jN n))) else none) = _
  obtain ⟨c1, c2, c3, c4, c5, c6⟩ := hc
  have hl1 : ∀ a, (List.map (fun k => aSlot (aTy zTy (sT s a).fst k) s a k) (List.range (sT s a).snd)).length = (sT s a).2 := fun a => by simp
  have hfi : (((List.map (fun k => aSlot (aTy zTy (sT s sq).fst k) s sq k) (List.range (sT s sq).snd)).drop (jN sp)).take (jN n)).all (xfit 0) = true := by
    refine List.all_eq_true.mpr fun v hv => ?_
    have hv2 := List.mem_of_mem_drop (List.mem_of_mem_take hv)
    obtain ⟨j, hj, rfl⟩ := List.mem_map.mp hv2
    rw [hq]
    rfl
  rw [if_pos ⟨by decide, hK, c1, by show (sT s sq).1 = 100; rw [hq], by show (sT s sd).1 = 100; rw [hd], c2, c3, c4, by rw [hl1, hq]; exact c5, by rw [hl1, hd]; exact c6, hfi⟩, hOf_cp ha hb hq hd c5 c6]
/-- a new tree -/
def nTree (s : aS) : aS := wR (wR (nw (nw (wR (nw (nw s 3 3) 100 1408) (sL s) 0 (.ref (sL s + 1))) 1 2) 102 256) (sL s + 2) 0 (.ref (sL s + 3))) (sL s) 1 (.ref (sL s + 2))
set_option maxRecDepth 100000 in
theorem nTree_L (s : aS) : sL (nTree s) = sL s + 4 := rfl
set_option maxRecDepth 100000 in
theorem nTree_T (s : aS) (a : Nat) : sT (nTree s) a = if a = sL s + 3 then (102, 256) else if a = sL s + 2 then (1, 2) else if a = sL s + 1 then (100, 1408) else if a = sL s then (3, 3) else sT s a := rfl
set_option maxRecDepth 100000 in
theorem nTree_R (s : aS) (a k : Nat) : sR (nTree s) a k = if a = sL s ∧ k = 1 then .ref (sL s + 2) else if a = sL s + 2 ∧ k = 0 then .ref (sL s + 3) else if a = sL s + 3 then .null else if a = sL s + 2 then .null else if a = sL s ∧ k = 0 then .ref (sL s + 1) else if a = sL s + 1 then .null else if a = sL s then .null else sR s a k := rfl
set_option maxRecDepth 100000 in
theorem nTree_I (s : aS) (a k : Nat) : sI (nTree s) a k = if a = sL s + 3 then 0 else if a = sL s + 2 then 0 else if a = sL s + 1 then 0 else if a = sL s then 0 else sI s a k := rfl
set_option maxRecDepth 100000 in
theorem lay_tree {G : Nat → Bool} {tt : Nat} {cc : Nat → Nat → Int32} {s : aS} (hg : G (sL s) = true) (h : Ly tt cc s) : Ly tt cc (nTree s) ∧ ext G s (nTree s) ∧ aK (nTree s) (sL s) 3 := by
  obtain ⟨h1, h2, h3, h4, h5, h6, h7, h8, h9⟩ := h
  have hT : ∀ a, a < sL s → sT (nTree s) a = sT s a := fun a ha => by rw [nTree_T, if_neg (by omega), if_neg (by omega), if_neg (by omega), if_neg (by omega)]
  have hR : ∀ a k, a < sL s → sR (nTree s) a k = sR s a k := fun a k ha => by rw [nTree_R, if_neg (by omega), if_neg (by omega), if_neg (by omega), if_neg (by omega), if_neg (by omega), if_neg (by omega), if_neg (by omega)]
  have hI : ∀ a k, a < sL s → sI (nTree s) a k = sI s a k := fun a k ha => by rw [nTree_I, if_neg (by omega), if_neg (by omega), if_neg (by omega), if_neg (by omega)]
  have hJ : ∀ a k, a < sL s → sJ (nTree s) a k = sJ s a k := fun a k ha => by
    show (if a = sL s + 3 then 0 else if a = sL s + 2 then 0 else if a = sL s + 1 then 0 else if a = sL s then 0 else sJ s a k) = _
    rw [if_neg (by omega), if_neg (by omega), if_neg (by omega), if_neg (by omega)]
  have t0 : sT (nTree s) (sL s) = (3, 3) := by rw [nTree_T, if_neg (by omega), if_neg (by omega), if_neg (by omega), if_pos rfl]
  have t1 : sT (nTree s) (sL s + 1) = (100, 1408) := by rw [nTree_T, if_neg (by omega), if_neg (by omega), if_pos rfl]
  have t2 : sT (nTree s) (sL s + 2) = (1, 2) := by rw [nTree_T, if_neg (by omega), if_pos rfl]
  have t3 : sT (nTree s) (sL s + 3) = (102, 256) := by rw [nTree_T, if_pos rfl]
  have r0 : sR (nTree s) (sL s) 0 = .ref (sL s + 1) := by rw [nTree_R, if_neg (by omega), if_neg (by omega), if_neg (by omega), if_neg (by omega), if_pos ⟨rfl, rfl⟩]
  have r1 : sR (nTree s) (sL s) 1 = .ref (sL s + 2) := by rw [nTree_R, if_pos ⟨rfl, rfl⟩]
  have r2 : sR (nTree s) (sL s + 2) 0 = .ref (sL s + 3) := by rw [nTree_R, if_neg (by omega), if_pos ⟨rfl, rfl⟩]
  have hn : ∀ b c, aK (nTree s) b c → (b < sL s ∧ aK s b c) ∨ (b = sL s ∧ c = 3) ∨ (b = sL s + 1 ∧ c = 100) ∨ (b = sL s + 2 ∧ c = 1) ∨ (b = sL s + 3 ∧ c = 102) := by
    rintro b c ⟨hb1, hb2⟩
    have hb1 : b < sL s + 4 := hb1
    by_cases e : b < sL s
    · rw [hT b e] at hb2
      exact Or.inl ⟨e, e, hb2⟩
    · have hq : b = sL s ∨ b = sL s + 1 ∨ b = sL s + 2 ∨ b = sL s + 3 := by omega
      rcases hq with rfl | rfl | rfl | rfl
      · rw [t0] at hb2; exact Or.inr (Or.inl ⟨rfl, hb2.symm⟩)
      · rw [t1] at hb2; exact Or.inr (Or.inr (Or.inl ⟨rfl, hb2.symm⟩))
      · rw [t2] at hb2; exact Or.inr (Or.inr (Or.inr (Or.inl ⟨rfl, hb2.symm⟩)))
      · rw [t3] at hb2; exact Or.inr (Or.inr (Or.inr (Or.inr ⟨rfl, hb2.symm⟩)))
  have hL : sL (nTree s) = sL s + 4 := rfl
  refine ⟨⟨by omega, h2, fun j p hp => ?_, fun j q hq => ?_, fun b hb => ?_, fun b hb => ?_, fun b hb => ?_, fun a ha => ?_, fun a k ha => ?_⟩, ⟨by omega, hT, fun a ha _ => ⟨fun k => hI a k ha, fun k => hR a k ha, fun k => hJ a k ha⟩, fun e => by rw [hg] at e; cases e⟩, ⟨by omega, by rw [t0]⟩⟩
  · rw [hT _ (by have := lay_sm1 j p hp; omega)]; exact h3 j p hp
  · rw [hR _ _ (by have := lay_sm2 j q hq; omega)]; exact h4 j q hq
  · rcases hn b 1 hb with ⟨e, hb⟩ | ⟨rfl, hc⟩ | ⟨rfl, hc⟩ | ⟨rfl, -⟩ | ⟨rfl, hc⟩
    · obtain ⟨g1, g2, g3, g4, g5⟩ := h5 b hb
      exact ⟨by rw [hT b e]; exact g1, by rw [hR b _ e]; exact g2, by omega, by rw [hT _ g3]; exact g4, g5⟩
    · cases hc
    · cases hc
    · exact ⟨t2, r2, by omega, by rw [t3], by omega⟩
    · cases hc
  · rcases hn b 3 hb with ⟨e, hb⟩ | ⟨rfl, -⟩ | ⟨rfl, hc⟩ | ⟨rfl, hc⟩ | ⟨rfl, hc⟩
    · obtain ⟨g1, g2, g3, g4, g5, g6, g7, g8⟩ := h6 b hb
      exact ⟨by rw [hT b e]; exact g1, by rw [hR b _ e]; exact g2, by rw [hR b _ e]; exact g3, by omega, by rw [hT _ (by omega)]; exact g5, by rw [hT _ (by omega)]; exact g6, by rw [hT _ (by omega)]; exact g7, g8⟩
    · exact ⟨t0, r0, r1, by omega, t1, t2, t3, by omega⟩
    · cases hc
    · cases hc
    · cases hc
  · rcases hn b 70 hb with ⟨e, hb⟩ | ⟨rfl, hc⟩ | ⟨rfl, hc⟩ | ⟨rfl, hc⟩ | ⟨rfl, hc⟩
    · obtain ⟨g1, g2, g3, g4, g5⟩ := h7 b hb
      exact ⟨by rw [hT b e]; exact g1, by rw [hR b _ e]; exact g2, by omega, by rw [hT _ g3]; exact g4, g5⟩
    · cases hc
    · cases hc
    · cases hc
    · cases hc
  · rw [hT a (by omega)]; exact h8 a ha
  · rw [hI a k (by omega)]; exact h9 a k ha
set_option maxRecDepth 100000 in
theorem zmL : zP[17]? = some zM17 := rfl
set_option maxRecDepth 100000 in
theorem zmT : zP[19]? = some zM19 := rfl
set_option maxRecDepth 100000 in
theorem q_let {sio : Bool} {d b : Nat} {s : aS} (hb : b < sL s) (hK : zK ≤ b) (hT : sT s b = (1, 2)) : A zP (zCs (sv sio)) zK zTy (d + 1) 17 0 [some (.ref b), some (.int 256)] [] s (.inl none, wR (nw s 102 256) b 0 (.ref (sL s))) := by
  refine A.run zmL 1 (i' := 1) (ls' := [some (.ref b), some (.int 256)]) (st' := [.ref b]) rfl ?_
  refine A.oi zmL (eq_true (by decide)) (show zM17.2.2.2.2.2[1]? = some (1, 3, .invokespecial 3, [1]) from rfl) ?_
  refine A.run zmL 2 (i' := 4) (ls' := [some (.ref b), some (.int 256)]) (st' := [.int 256, .ref b]) rfl ?_
  refine A.zT (gI_of zmL (e := (6, 3, .ifCond .ge 7, [7])) rfl) (by decide) ?_
  refine A.run zmL 1 (i' := 8) (ls' := [some (.ref b), some (.int 256)]) (st' := [.int 256, .ref b]) rfl ?_
  refine A.na (gI_of zmL (e := (14, 2, .newarray .char, [])) rfl) (by decide) (by decide) (Or.inr rfl) ?_
  refine A.pr (n := 2) (gI_of zmL (e := (16, 3, .putfield 9, [1, 0, 2])) rfl) (show b < sL s + 1 by omega) hK ?_ (by decide) rfl rfl ?_
  · show (if b = sL s then _ else sT s b) = _
    rw [if_neg (by omega)]
    exact hT
  · exact A.rv zmL (show zM17.2.2.2.2.2[10]? = some (19, 1, .return_, []) from rfl) rfl
set_option maxRecDepth 100000 in
theorem q_tree {sio : Bool} {d : Nat} {s : aS} (hK : zK ≤ sL s) : A zP (zCs (sv sio)) zK zTy (d + 2) 19 0 [some (.ref (sL s))] [] (nw s 3 3) (.inl none, nTree s) := by
  refine A.run zmT 1 (i' := 1) (ls' := [some (.ref (sL s))]) (st' := [.ref (sL s)]) rfl ?_
  refine A.oi zmT (eq_true (by decide)) (show zM19.2.2.2.2.2[1]? = some (1, 3, .invokespecial 3, [1]) from rfl) ?_
  refine A.run zmT 2 (i' := 4) (ls' := [some (.ref (sL s))]) (st' := [.int 1408, .ref (sL s)]) rfl ?_
  refine A.na (gI_of zmT (e := (8, 2, .newarray .int, [])) rfl) (by decide) (by decide) (Or.inl rfl) ?_
  refine A.pr (n := 3) (gI_of zmT (e := (10, 3, .putfield 9, [3, 0, 2])) rfl) (show sL s < sL s + 2 by omega) hK ?_ (by decide) rfl rfl ?_
  · show (if sL s = sL s + 1 then _ else if sL s = sL s then _ else _) = _
    rw [if_neg (by omega), if_pos rfl]
  refine A.run zmT 1 (i' := 7) (ls' := [some (.ref (sL s))]) (st' := [.ref (sL s)]) rfl ?_
  refine A.nwd (gI_of zmT (e := (14, 3, .new 15, [1, 2, 0])) rfl) (by decide) rfl ?_
  refine A.run zmT 2 (i' := 10) (ls' := [some (.ref (sL s))]) (st' := [.int 256, .ref (sL s + 2), .ref (sL s + 2), .ref (sL s)]) rfl ?_
  refine A.c (gC_sp zmT (show zM19.2.2.2.2.2[10]? = some (21, 3, .invokespecial 17, [0, 17, 1]) from rfl) zmL rfl (show aCr 1 (sL s + 2) [.int 256, .ref (sL s + 2), .ref (sL s + 2), .ref (sL s)] 2 = some ([some (.ref (sL s + 2)), some (.int 256)], [.ref (sL s + 2), .ref (sL s)]) from rfl)) (q_let (show sL s + 2 < sL s + 3 by omega) (by omega) ?_) ?_
  · show (if sL s + 2 = sL s + 2 then _ else _) = _
    rw [if_pos rfl]
    rfl
  refine A.pr (n := 3) (gI_of zmT (e := (24, 3, .putfield 20, [3, 1, 2])) rfl) (show sL s < sL s + 4 by omega) hK ?_ (by decide) rfl rfl ?_
  · show (if sL s = sL s + 3 then _ else if sL s = sL s + 2 then _ else if sL s = sL s + 1 then _ else if sL s = sL s then _ else _) = _
    rw [if_neg (by omega), if_neg (by omega), if_neg (by omega), if_pos rfl]
  · exact A.rv zmT (show zM19.2.2.2.2.2[12]? = some (27, 1, .return_, []) from rfl) rfl
set_option maxRecDepth 100000 in
theorem Q.tree {f : Nat} {sio : Bool} {tt : Nat} {cc : Nat → Nat → Int32} {d k i b q q2 : Nat} {ls : xL} {st : List Value} {s s1 : aS} {o : xZ × aS} {M : xQ6} {a1 a2 : Nat} {rs : List Nat} (hs : s1 = nTree s) (hg : zG f (sL s) = true) (hb : b = sL s) (hM : zP[k]? = some M) (h1 : gI zP k i = some (.new q, [3, 2, 2, 0])) (h2 : gI zP k (i + 1) = some (.dup, rs)) (h3 : M.2.2.2.2.2[i + 2]? = some (a1, a2, .invokespecial q2, [0, 19, 0])) (hw : ((((Value.ref (sL s)) :: st).map fun v : Value => v.category).sum ≤ 8) = True) (hd : 2 ≤ d) (hl : Ly tt cc s) (g : Q f sio tt cc (d + 1) k (i + 3) ls (.ref b :: st) s1 o) : Q f sio tt cc (d + 1) k i ls st s o := by
  subst hs; subst hb
  obtain ⟨d, rfl⟩ : ∃ e, d = e + 2 := ⟨d - 2, by omega⟩
  obtain ⟨-, h5, -⟩ := lay_tree hg hl
  refine Q.mapw h5 (fun g => ?_) g
  refine A.nwd h1 (by decide) rfl ?_
  refine A.ss h2 (show pS _ .dup _ _ _ _ = some (i + 1 + 1, ls, .ref (sL s) :: .ref (sL s) :: st) from rfl) ?_
  refine A.c (gC_sp (x := sL s) (n := 0) (ls1 := [some (.ref (sL s))]) (r := .ref (sL s) :: st) hM h3 zmT rfl ?_) (q_tree (Nat.le_trans hl.2.1 hl.1)) g
  unfold aCr
  rw [if_pos ⟨of_eq_true hw, rfl⟩]
  rfl
end
section
/-! 28 FormulaTrees$Letters.length()I -/
set_option maxRecDepth 100000 in
theorem zm28 : zP[28]? = some zM28 := rfl
def dm28 (b0 : Nat) (s : aS) : Option (Int32) :=
  some (sI s b0 1)
set_option maxRecDepth 100000 in
theorem dt28 {sio : Bool} {tt : Nat} {cc : Nat → Nat → Int32} {d : Nat} (hd : 0 ≤ d) {b0 : Nat} {s : aS} (hl : Ly tt cc s) (hk_b0 : aK s b0 1) {o : Int32} (h : dm28  b0 s = some o) : Q 1 sio tt cc d 28 0 [some (.ref b0)] [] s (.inl (some (.int o)), s) := by
  unfold dm28 at h
  refine Q.run zm28 1 (i' := 1) (ls' := [some (.ref b0)]) (st' := [.ref b0]) rfl ?_
  refine Q.map (A.gf (gI_of zm28 (e := (1, 3, .getfield 15, [1, 1])) rfl) hk_b0.1 (hl.le hk_b0).1 (by decide) rfl) ?_
  cases h
  exact Q.ret (A.ri zm28 (show zM28.2.2.2.2.2[2]? = some (4, 1, .ireturn, []) from rfl) rfl rfl) hl
/-! 29 FormulaTrees$Letters.add(I)V -/
set_option maxRecDepth 100000 in
theorem zm29 : zP[29]? = some zM29 := rfl
def dm29 (b0 : Nat) (x1 : Int32) (s : aS) : Option (aS) :=
  if (Int32.ofNat (sT s (b0 + 1)).2) ≤ (sI s b0 1) then
    some s
  else
    if aB (sI s b0 1) (sT s (b0 + 1)).2 then
      nx (wI s (b0 + 1) (jN (sI s b0 1)) (nC ((x1.toUInt32 % 65536).toInt32))) fun s3 =>
      nx (wI s3 b0 1 ((sI s3 b0 1) + 1)) fun s7 =>
      some s7
    else none
set_option maxRecDepth 100000 in
theorem dt29 {sio : Bool} {tt : Nat} {cc : Nat → Nat → Int32} {d : Nat} (hd : 0 ≤ d) {b0 : Nat} {x1 : Int32} {s : aS} (hl : Ly tt cc s) (hk_b0 : aK s b0 1) {o : aS} (h : dm29  b0 x1 s = some o) : Q 1 sio tt cc d 29 0 [some (.ref b0), some (.int x1)] [] s (.inl none, o) := by
  unfold dm29 at h
  refine Q.run zm29 1 (i' := 1) (ls' := [some (.ref b0), some (.int x1)]) (st' := [.ref b0]) rfl ?_
  refine Q.map (A.gf (gI_of zm29 (e := (1, 3, .getfield 15, [1, 1])) rfl) hk_b0.1 (hl.le hk_b0).1 (by decide) rfl) ?_
  refine Q.run zm29 1 (i' := 3) (ls' := [some (.ref b0), some (.int x1)]) (st' := [.ref b0, .int (sI s b0 1)]) rfl ?_
  refine Q.map (A.gf (gI_of zm29 (e := (5, 3, .getfield 9, [1, 0])) rfl) hk_b0.1 (hl.le hk_b0).1 (by decide) (hl.le hk_b0).2.1) ?_
  refine Q.map (A.al (gI_of zm29 (e := (8, 1, .arraylength, [])) rfl) (hl.le hk_b0).2.2.1 (pr2 (hl.le hk_b0).2.2.2.1) (by decide)) ?_
  by_cases hc1 : (Int32.ofNat (sT s (b0 + 1)).2) ≤ (sI s b0 1)
  · rw [if_pos hc1] at h
    refine Q.map (A.bT (gI_of zm29 (e := (9, 3, .if_icmp .ge 24, [19])) rfl) (decide_eq_true hc1)) ?_
    cases h
    exact Q.ret (A.rv zm29 (show zM29.2.2.2.2.2[19]? = some (33, 1, .return_, []) from rfl) rfl) hl
  · rw [if_neg hc1] at h
    refine Q.map (A.bF (gI_of zm29 (e := (9, 3, .if_icmp .ge 24, [19])) rfl) (fun q => hc1 (of_decide_eq_true q))) ?_
    refine Q.run zm29 1 (i' := 7) (ls' := [some (.ref b0), some (.int x1)]) (st' := [.ref b0]) rfl ?_
    refine Q.map (A.gf (gI_of zm29 (e := (13, 3, .getfield 9, [1, 0])) rfl) hk_b0.1 (hl.le hk_b0).1 (by decide) (hl.le hk_b0).2.1) ?_
    refine Q.run zm29 1 (i' := 9) (ls' := [some (.ref b0), some (.int x1)]) (st' := [.ref b0, .ref (b0 + 1)]) rfl ?_
    refine Q.map (A.gf (gI_of zm29 (e := (17, 3, .getfield 15, [1, 1])) rfl) hk_b0.1 (hl.le hk_b0).1 (by decide) rfl) ?_
    refine Q.run zm29 2 (i' := 12) (ls' := [some (.ref b0), some (.int x1)]) (st' := [.int ((x1.toUInt32 % 65536).toInt32), .int (sI s b0 1), .ref (b0 + 1)]) rfl ?_
    obtain ⟨hc2, h⟩ := ite_so h
    obtain ⟨s3, hs4, h⟩ := nx_so h
    refine Q.cs hs4 (hl.g1b hk_b0) (gI_of zm29 (e := (22, 1, .castore, [])) rfl) (hl.le hk_b0).2.2.1 (Nat.le_succ_of_le (hl.le hk_b0).2.2.2.2) (pr2 (hl.le hk_b0).2.2.2.1) hc2 ?_
    have hl5 : Ly tt cc s3 := by rw [hs4]; exact hl.wId (Nat.le_succ_of_le (hl.le hk_b0).2.2.2.2)
    have hr6 : aK s3 b0 1 := by rw [hs4]; exact hk_b0
    refine Q.run zm29 2 (i' := 15) (ls' := [some (.ref b0), some (.int x1)]) (st' := [.ref b0, .ref b0]) rfl ?_
    refine Q.map (A.gf (gI_of zm29 (e := (25, 3, .getfield 15, [1, 1])) rfl) hr6.1 (hl5.le hr6).1 (by decide) rfl) ?_
    refine Q.run zm29 2 (i' := 18) (ls' := [some (.ref b0), some (.int x1)]) (st' := [.int ((sI s3 b0 1) + 1), .ref b0]) rfl ?_
    obtain ⟨s7, hs8, h⟩ := nx_so h
    refine Q.pf hs8 (hl5.g1 hr6) (gI_of zm29 (e := (30, 3, .putfield 15, [1, 1, 0])) rfl) hr6.1 (hl5.le hr6).2.2.2.2 (hl5.le hr6).1 (by decide) rfl rfl ?_
    have hl9 : Ly tt cc s7 := by rw [hs8]; exact hl5.wId (hl5.le hr6).2.2.2.2
    have hr10 : aK s7 b0 1 := by rw [hs8]; exact hr6
    cases h
    exact Q.ret (A.rv zm29 (show zM29.2.2.2.2.2[19]? = some (33, 1, .return_, []) from rfl) rfl) hl9
/-! 27 FormulaTrees.type(I)I -/
set_option maxRecDepth 100000 in
theorem zm27 : zP[27]? = some zM27 := rfl
def dm27_63 (k49 : Int32 → Int32 → aS → Option (xZ × aS)) (x1 : Int32) (x3 : Int32) (s : aS) : Option (xZ × aS) :=
  k49 x1 (x3 + (-8)) s
set_option maxRecDepth 100000 in
theorem dt27_63 {sio : Bool} {tt : Nat} {cc : Nat → Nat → Int32} {d : Nat} (hd : 9 ≤ d) {k49 : Int32 → Int32 → aS → Option (xZ × aS)} (hk49 : ∀ {x1 : Int32} {x3 : Int32} {x2 : Int32} {g4 : Option Value} {s : aS}, Ly tt cc s → ∀ {o : xZ × aS}, k49 x1 x3 s = some o → Q 1 sio tt cc d 27 49 [some (.ref 78), some (.int x1), some (.int x2), some (.int x3), g4] [] s o) {x1 : Int32} {x3 : Int32} {x2 : Int32} {x4 : Int32} {s : aS} (hl : Ly tt cc s) {o : xZ × aS} (h : dm27_63 k49 x1 x3 s = some o) : Q 1 sio tt cc d 27 63 [some (.ref 78), some (.int x1), some (.int x2), some (.int x3), some (.int x4)] [] s o := by
  unfold dm27_63 at h
  obtain ⟨d, rfl⟩ : ∃ e, d = e + 1 := ⟨d - 1, by omega⟩
  refine Q.run zm27 2 (i' := 49) (ls' := [some (.ref 78), some (.int x1), some (.int x2), some (.int (x3 + (-8))), some (.int x4)]) (st' := []) rfl ?_
  exact hk49 hl  h
def dm27_31 (k4 : Int32 → Int32 → Int32 → aS → Option (xZ × aS)) (x1 : Int32) (x3 : Int32) (y0 : Int32) (y1 : Int32) (s : aS) : Option (xZ × aS) :=
  k4 x1 (y0 + y1) (x3 + (-8)) s
set_option maxRecDepth 100000 in
theorem dt27_31 {sio : Bool} {tt : Nat} {cc : Nat → Nat → Int32} {d : Nat} (hd : 9 ≤ d) {k4 : Int32 → Int32 → Int32 → aS → Option (xZ × aS)} (hk4 : ∀ {x1 : Int32} {x2 : Int32} {x3 : Int32} {g4 : Option Value} {s : aS}, Ly tt cc s → ∀ {o : xZ × aS}, k4 x1 x2 x3 s = some o → Q 1 sio tt cc d 27 4 [some (.ref 78), some (.int x1), some (.int x2), some (.int x3), g4] [] s o) {x1 : Int32} {x3 : Int32} {y0 : Int32} {y1 : Int32} {x2 : Int32} {x4 : Int32} {s : aS} (hl : Ly tt cc s) {o : xZ × aS} (h : dm27_31 k4 x1 x3 y0 y1 s = some o) : Q 1 sio tt cc d 27 31 [some (.ref 78), some (.int x1), some (.int x2), some (.int x3), some (.int x4)] [.int y1, .int y0] s o := by
  unfold dm27_31 at h
  obtain ⟨d, rfl⟩ : ∃ e, d = e + 1 := ⟨d - 1, by omega⟩
  refine Q.run zm27 4 (i' := 4) (ls' := [some (.ref 78), some (.int x1), some (.int (y0 + y1)), some (.int (x3 + (-8))), some (.int x4)]) (st' := []) rfl ?_
  exact hk4 hl  h
def dm27_20 (s : aS) : Option (xZ × aS) :=
  some (.inr 0, nw s 80 0)
set_option maxRecDepth 100000 in
theorem dt27_20 {sio : Bool} {tt : Nat} {cc : Nat → Nat → Int32} {d : Nat} (hd : 9 ≤ d) {x1 : Int32} {x2 : Int32} {x3 : Int32} {x4 : Int32} {s : aS} (hl : Ly tt cc s) {o : xZ × aS} (h : dm27_20  s = some o) : Q 1 sio tt cc d 27 20 [some (.ref 78), some (.int x1), some (.int x2), some (.int x3), some (.int x4)] [] s o := by
  unfold dm27_20 at h
  obtain ⟨d, rfl⟩ : ∃ e, d = e + 1 := ⟨d - 1, by omega⟩
  cases h
  exact Q.t zm27 (show zM27.2.2.2.2.2[20]? = some (37, 3, .new 58, [200]) from rfl) rfl rfl hl.gL (by omega) hl
def dm27_49 : Nat → Int32 → Int32 → aS → Option (xZ × aS)
  | 0, _, _, _ => none
  | n + 1, x1, x3, s =>
    if x3 < 0 then
      bu (dm28 79 s) fun r4 =>
      some (.inl (some (.int r4)), s)
    else
      if (((x1.toUInt32 >>> (x3.toUInt32 &&& Int32.toUInt32 31)).toInt32) &&& 255) = 0 then
        dm27_63 (dm27_49 n) x1 x3 s
      else
        bu (dm29 79 (((x1.toUInt32 >>> (x3.toUInt32 &&& Int32.toUInt32 31)).toInt32) &&& 255) s) fun s8 =>
        dm27_63 (dm27_49 n) x1 x3 s8
set_option maxRecDepth 100000 in
theorem dt27_49 {sio : Bool} {tt : Nat} {cc : Nat → Nat → Int32} {d : Nat} (hd : 9 ≤ d) : ∀ (n : Nat) {x1 : Int32} {x3 : Int32} {x2 : Int32} {g4 : Option Value} {s : aS} (_ : Ly tt cc s) {o : xZ × aS} (_ : dm27_49  n x1 x3 s = some o), Q 1 sio tt cc d 27 49 [some (.ref 78), some (.int x1), some (.int x2), some (.int x3), g4] [] s o := by
  obtain ⟨d, rfl⟩ : ∃ e, d = e + 1 := ⟨d - 1, by omega⟩
  intro n
  induction n with
  | zero => intro x1 x3 x2 g4 s hl o h; rw [dm27_49] at h; cases h
  | succ n ih =>
    intro x1 x3 x2 g4 s hl o h
    rw [dm27_49] at h
    refine Q.run zm27 1 (i' := 50) (ls' := [some (.ref 78), some (.int x1), some (.int x2), some (.int x3), g4]) (st' := [.int x3]) rfl ?_
    by_cases hc1 : x3 < 0
    · rw [if_pos hc1] at h
      refine Q.map (A.zT (gI_of zm27 (e := (95, 3, .ifCond .lt 32, [65])) rfl) (decide_eq_true hc1)) ?_
      refine Q.run zm27 1 (i' := 66) (ls' := [some (.ref 78), some (.int x1), some (.int x2), some (.int x3), g4]) (st' := [.ref 78]) rfl ?_
      refine Q.map (A.gf (gI_of zm27 (e := (128, 3, .getfield 14, [0, 0])) rfl) (hl.lt (a := 78) (by decide)) (hl.T (a := 78) (p := (0, 7)) 0 rfl rfl) (by decide) (hl.R 0 rfl)) ?_
      obtain ⟨r4, hc3, h⟩ := bu_so h
      have hq2 : Q 1 sio tt cc d 28 0 [some (.ref 79)] [] s (.inl (some (.int r4)), s) := dt28 (by omega) hl (hl.Kd (a := 79) (c := 1) (n := 2) 1 rfl rfl (by decide)) hc3
      refine Q.callI (gC_vi zm27 (show zM27.2.2.2.2.2[67]? = some (131, 3, .invokevirtual 65, [0, 28, 0, 1]) from rfl) zm28 (hl.lt (a := 79) (by decide)) (hl.T (a := 79) (p := (1, 2)) 1 rfl rfl) rfl (show aCr 0 79 [.ref 79] 1 = some ([some (.ref 79)], []) from rfl)) hq2 ?_
      cases h
      exact Q.ret (A.ri zm27 (show zM27.2.2.2.2.2[68]? = some (134, 1, .ireturn, []) from rfl) rfl rfl) hl
    · rw [if_neg hc1] at h
      refine Q.map (A.zF (gI_of zm27 (e := (95, 3, .ifCond .lt 32, [65])) rfl) (fun q => hc1 (of_decide_eq_true q))) ?_
      refine Q.run zm27 7 (i' := 58) (ls' := [some (.ref 78), some (.int x1), some (.int x2), some (.int x3), some (.int (((x1.toUInt32 >>> (x3.toUInt32 &&& Int32.toUInt32 31)).toInt32) &&& 255))]) (st' := [.int (((x1.toUInt32 >>> (x3.toUInt32 &&& Int32.toUInt32 31)).toInt32) &&& 255)]) rfl ?_
      by_cases hc5 : (((x1.toUInt32 >>> (x3.toUInt32 &&& Int32.toUInt32 31)).toInt32) &&& 255) = 0
      · rw [if_pos hc5] at h
        refine Q.map (A.zT (gI_of zm27 (e := (109, 3, .ifCond .eq 12, [63])) rfl) (decide_eq_true hc5)) ?_
        exact dt27_63 hd ih hl  h
      · rw [if_neg hc5] at h
        refine Q.map (A.zF (gI_of zm27 (e := (109, 3, .ifCond .eq 12, [63])) rfl) (fun q => hc5 (of_decide_eq_true q))) ?_
        refine Q.run zm27 1 (i' := 60) (ls' := [some (.ref 78), some (.int x1), some (.int x2), some (.int x3), some (.int (((x1.toUInt32 >>> (x3.toUInt32 &&& Int32.toUInt32 31)).toInt32) &&& 255))]) (st' := [.ref 78]) rfl ?_
        refine Q.map (A.gf (gI_of zm27 (e := (113, 3, .getfield 14, [0, 0])) rfl) (hl.lt (a := 78) (by decide)) (hl.T (a := 78) (p := (0, 7)) 0 rfl rfl) (by decide) (hl.R 0 rfl)) ?_
        refine Q.run zm27 1 (i' := 62) (ls' := [some (.ref 78), some (.int x1), some (.int x2), some (.int x3), some (.int (((x1.toUInt32 >>> (x3.toUInt32 &&& Int32.toUInt32 31)).toInt32) &&& 255))]) (st' := [.int (((x1.toUInt32 >>> (x3.toUInt32 &&& Int32.toUInt32 31)).toInt32) &&& 255), .ref 79]) rfl ?_
        obtain ⟨s8, hc7, h⟩ := bu_so h
        have hq6 : Q 1 sio tt cc d 29 0 [some (.ref 79), some (.int (((x1.toUInt32 >>> (x3.toUInt32 &&& Int32.toUInt32 31)).toInt32) &&& 255))] [] s (.inl none, s8) := dt29 (by omega) hl (hl.Kd (a := 79) (c := 1) (n := 2) 1 rfl rfl (by decide)) hc7
        refine Q.callV (gC_vi zm27 (show zM27.2.2.2.2.2[62]? = some (118, 3, .invokevirtual 74, [0, 29, 1, 1]) from rfl) zm29 (hl.lt (a := 79) (by decide)) (hl.T (a := 79) (p := (1, 2)) 1 rfl rfl) rfl (show aCr 1 79 [.int (((x1.toUInt32 >>> (x3.toUInt32 &&& Int32.toUInt32 31)).toInt32) &&& 255), .ref 79] 2 = some ([some (.ref 79), some (.int (((x1.toUInt32 >>> (x3.toUInt32 &&& Int32.toUInt32 31)).toInt32) &&& 255))], []) from rfl)) hq6 ?_
        exact dt27_63 hd ih hq6.1  h
def dm27_25 (k4 : Int32 → Int32 → Int32 → aS → Option (xZ × aS)) (x1 : Int32) (x2 : Int32) (x3 : Int32) (x4 : Int32) (s : aS) : Option (xZ × aS) :=
  if x4 = 0 then
    dm27_31 k4 x1 x3 x2 0 s
  else
    dm27_31 k4 x1 x3 x2 1 s
set_option maxRecDepth 100000 in
theorem dt27_25 {sio : Bool} {tt : Nat} {cc : Nat → Nat → Int32} {d : Nat} (hd : 9 ≤ d) {k4 : Int32 → Int32 → Int32 → aS → Option (xZ × aS)} (hk4 : ∀ {x1 : Int32} {x2 : Int32} {x3 : Int32} {g4 : Option Value} {s : aS}, Ly tt cc s → ∀ {o : xZ × aS}, k4 x1 x2 x3 s = some o → Q 1 sio tt cc d 27 4 [some (.ref 78), some (.int x1), some (.int x2), some (.int x3), g4] [] s o) {x1 : Int32} {x2 : Int32} {x3 : Int32} {x4 : Int32} {s : aS} (hl : Ly tt cc s) {o : xZ × aS} (h : dm27_25 k4 x1 x2 x3 x4 s = some o) : Q 1 sio tt cc d 27 25 [some (.ref 78), some (.int x1), some (.int x2), some (.int x3), some (.int x4)] [] s o := by
  unfold dm27_25 at h
  obtain ⟨d, rfl⟩ : ∃ e, d = e + 1 := ⟨d - 1, by omega⟩
  refine Q.run zm27 2 (i' := 27) (ls' := [some (.ref 78), some (.int x1), some (.int x2), some (.int x3), some (.int x4)]) (st' := [.int x4, .int x2]) rfl ?_
  by_cases hc1 : x4 = 0
  · rw [if_pos hc1] at h
    refine Q.map (A.zT (gI_of zm27 (e := (50, 3, .ifCond .eq 7, [30])) rfl) (decide_eq_true hc1)) ?_
    refine Q.run zm27 1 (i' := 31) (ls' := [some (.ref 78), some (.int x1), some (.int x2), some (.int x3), some (.int x4)]) (st' := [.int 0, .int x2]) rfl ?_
    exact dt27_31 hd hk4 hl  h
  · rw [if_neg hc1] at h
    refine Q.map (A.zF (gI_of zm27 (e := (50, 3, .ifCond .eq 7, [30])) rfl) (fun q => hc1 (of_decide_eq_true q))) ?_
    refine Q.run zm27 2 (i' := 31) (ls' := [some (.ref 78), some (.int x1), some (.int x2), some (.int x3), some (.int x4)]) (st' := [.int 1, .int x2]) rfl ?_
    exact dt27_31 hd hk4 hl  h
def dm27_4 : Nat → Int32 → Int32 → Int32 → aS → Option (xZ × aS)
  | 0, _, _, _, _ => none
  | n + 1, x1, x2, x3, s =>
    if x3 < 0 then
      bu (dm28 79 s) fun r4 =>
      if (r4 + x2) ≤ 256 then
        dm27_49 5000 x1 24 s
      else
        some (.inr 1, nw s 81 0)
    else
      if (((x1.toUInt32 >>> (x3.toUInt32 &&& Int32.toUInt32 31)).toInt32) &&& 255) = 0 then
        dm27_25 (dm27_4 n) x1 x2 x3 (((x1.toUInt32 >>> (x3.toUInt32 &&& Int32.toUInt32 31)).toInt32) &&& 255) s
      else
        if (((x1.toUInt32 >>> (x3.toUInt32 &&& Int32.toUInt32 31)).toInt32) &&& 255) < 32 then
          dm27_20 s
        else
          if (((x1.toUInt32 >>> (x3.toUInt32 &&& Int32.toUInt32 31)).toInt32) &&& 255) ≤ 126 then
            dm27_25 (dm27_4 n) x1 x2 x3 (((x1.toUInt32 >>> (x3.toUInt32 &&& Int32.toUInt32 31)).toInt32) &&& 255) s
          else
            dm27_20 s
set_option maxRecDepth 100000 in
theorem dt27_4 {sio : Bool} {tt : Nat} {cc : Nat → Nat → Int32} {d : Nat} (hd : 9 ≤ d) : ∀ (n : Nat) {x1 : Int32} {x2 : Int32} {x3 : Int32} {g4 : Option Value} {s : aS} (_ : Ly tt cc s) {o : xZ × aS} (_ : dm27_4  n x1 x2 x3 s = some o), Q 1 sio tt cc d 27 4 [some (.ref 78), some (.int x1), some (.int x2), some (.int x3), g4] [] s o := by
  obtain ⟨d, rfl⟩ : ∃ e, d = e + 1 := ⟨d - 1, by omega⟩
  intro n
  induction n with
  | zero => intro x1 x2 x3 g4 s hl o h; rw [dm27_4] at h; cases h
  | succ n ih =>
    intro x1 x2 x3 g4 s hl o h
    rw [dm27_4] at h
    refine Q.run zm27 1 (i' := 5) (ls' := [some (.ref 78), some (.int x1), some (.int x2), some (.int x3), g4]) (st' := [.int x3]) rfl ?_
    by_cases hc1 : x3 < 0
    · rw [if_pos hc1] at h
      refine Q.map (A.zT (gI_of zm27 (e := (6, 3, .ifCond .lt 60, [35])) rfl) (decide_eq_true hc1)) ?_
      refine Q.run zm27 1 (i' := 36) (ls' := [some (.ref 78), some (.int x1), some (.int x2), some (.int x3), g4]) (st' := [.ref 78]) rfl ?_
      refine Q.map (A.gf (gI_of zm27 (e := (67, 3, .getfield 14, [0, 0])) rfl) (hl.lt (a := 78) (by decide)) (hl.T (a := 78) (p := (0, 7)) 0 rfl rfl) (by decide) (hl.R 0 rfl)) ?_
      obtain ⟨r4, hc3, h⟩ := bu_so h
      have hq2 : Q 1 sio tt cc d 28 0 [some (.ref 79)] [] s (.inl (some (.int r4)), s) := dt28 (by omega) hl (hl.Kd (a := 79) (c := 1) (n := 2) 1 rfl rfl (by decide)) hc3
      refine Q.callI (gC_vi zm27 (show zM27.2.2.2.2.2[37]? = some (70, 3, .invokevirtual 65, [0, 28, 0, 1]) from rfl) zm28 (hl.lt (a := 79) (by decide)) (hl.T (a := 79) (p := (1, 2)) 1 rfl rfl) rfl (show aCr 0 79 [.ref 79] 1 = some ([some (.ref 79)], []) from rfl)) hq2 ?_
      refine Q.run zm27 3 (i' := 41) (ls' := [some (.ref 78), some (.int x1), some (.int x2), some (.int x3), g4]) (st' := [.int 256, .int (r4 + x2)]) rfl ?_
      by_cases hc5 : (r4 + x2) ≤ 256
      · rw [if_pos hc5] at h
        refine Q.map (A.bT (gI_of zm27 (e := (78, 3, .if_icmp .le 13, [47])) rfl) (decide_eq_true hc5)) ?_
        refine Q.run zm27 2 (i' := 49) (ls' := [some (.ref 78), some (.int x1), some (.int x2), some (.int 24), g4]) (st' := []) rfl ?_
        exact dt27_49 hd _ hl  h
      · rw [if_neg hc5] at h
        refine Q.map (A.bF (gI_of zm27 (e := (78, 3, .if_icmp .le 13, [47])) rfl) (fun q => hc5 (of_decide_eq_true q))) ?_
        cases h
        exact Q.t zm27 (show zM27.2.2.2.2.2[42]? = some (81, 3, .new 69, [201]) from rfl) rfl rfl hl.gL (by omega) hl
    · rw [if_neg hc1] at h
      refine Q.map (A.zF (gI_of zm27 (e := (6, 3, .ifCond .lt 60, [35])) rfl) (fun q => hc1 (of_decide_eq_true q))) ?_
      refine Q.run zm27 7 (i' := 13) (ls' := [some (.ref 78), some (.int x1), some (.int x2), some (.int x3), some (.int (((x1.toUInt32 >>> (x3.toUInt32 &&& Int32.toUInt32 31)).toInt32) &&& 255))]) (st' := [.int (((x1.toUInt32 >>> (x3.toUInt32 &&& Int32.toUInt32 31)).toInt32) &&& 255)]) rfl ?_
      by_cases hc6 : (((x1.toUInt32 >>> (x3.toUInt32 &&& Int32.toUInt32 31)).toInt32) &&& 255) = 0
      · rw [if_pos hc6] at h
        refine Q.map (A.zT (gI_of zm27 (e := (20, 3, .ifCond .eq 27, [25])) rfl) (decide_eq_true hc6)) ?_
        exact dt27_25 hd ih hl  h
      · rw [if_neg hc6] at h
        refine Q.map (A.zF (gI_of zm27 (e := (20, 3, .ifCond .eq 27, [25])) rfl) (fun q => hc6 (of_decide_eq_true q))) ?_
        refine Q.run zm27 2 (i' := 16) (ls' := [some (.ref 78), some (.int x1), some (.int x2), some (.int x3), some (.int (((x1.toUInt32 >>> (x3.toUInt32 &&& Int32.toUInt32 31)).toInt32) &&& 255))]) (st' := [.int 32, .int (((x1.toUInt32 >>> (x3.toUInt32 &&& Int32.toUInt32 31)).toInt32) &&& 255)]) rfl ?_
        by_cases hc7 : (((x1.toUInt32 >>> (x3.toUInt32 &&& Int32.toUInt32 31)).toInt32) &&& 255) < 32
        · rw [if_pos hc7] at h
          refine Q.map (A.bT (gI_of zm27 (e := (27, 3, .if_icmp .lt 10, [20])) rfl) (decide_eq_true hc7)) ?_
          exact dt27_20 hd hl  h
        · rw [if_neg hc7] at h
          refine Q.map (A.bF (gI_of zm27 (e := (27, 3, .if_icmp .lt 10, [20])) rfl) (fun q => hc7 (of_decide_eq_true q))) ?_
          refine Q.run zm27 2 (i' := 19) (ls' := [some (.ref 78), some (.int x1), some (.int x2), some (.int x3), some (.int (((x1.toUInt32 >>> (x3.toUInt32 &&& Int32.toUInt32 31)).toInt32) &&& 255))]) (st' := [.int 126, .int (((x1.toUInt32 >>> (x3.toUInt32 &&& Int32.toUInt32 31)).toInt32) &&& 255)]) rfl ?_
          by_cases hc8 : (((x1.toUInt32 >>> (x3.toUInt32 &&& Int32.toUInt32 31)).toInt32) &&& 255) ≤ 126
          · rw [if_pos hc8] at h
            refine Q.map (A.bT (gI_of zm27 (e := (34, 3, .if_icmp .le 13, [25])) rfl) (decide_eq_true hc8)) ?_
            exact dt27_25 hd ih hl  h
          · rw [if_neg hc8] at h
            refine Q.map (A.bF (gI_of zm27 (e := (34, 3, .if_icmp .le 13, [25])) rfl) (fun q => hc8 (of_decide_eq_true q))) ?_
            exact dt27_20 hd hl  h
def dm27 (x1 : Int32) (s : aS) : Option (xZ × aS) :=
  dm27_4 5000 x1 0 24 s
set_option maxRecDepth 100000 in
theorem dt27 {sio : Bool} {tt : Nat} {cc : Nat → Nat → Int32} {d : Nat} (hd : 9 ≤ d) {x1 : Int32} {s : aS} (hl : Ly tt cc s) {o : xZ × aS} (h : dm27  x1 s = some o) : Q 1 sio tt cc d 27 0 [some (.ref 78), some (.int x1), none, none, none] [] s o := by
  unfold dm27 at h
  obtain ⟨d, rfl⟩ : ∃ e, d = e + 1 := ⟨d - 1, by omega⟩
  refine Q.run zm27 4 (i' := 4) (ls' := [some (.ref 78), some (.int x1), some (.int 0), some (.int 24), none]) (st' := []) rfl ?_
  exact dt27_4 hd _ hl  h
/-! 1 FormulaTreesLaw.type(LFormulaTrees;I[J)I -/
set_option maxRecDepth 100000 in
theorem zm1 : zP[1]? = some zM1 := rfl
def dm1 (x1 : Int32) (s : aS) : Option (Int32 × aS) :=
  bv (dm27 x1 s) fun z4 s3 =>
  zN z4 (fun v5 =>
    vI v5 fun r7 =>
    if aB 0 1 then
      nx (wJ s3 148 (jN 0) r7.toInt64) fun s10 =>
      some (0, s10)
    else none
  ) fun e6 =>
    if e6 = 0 then
      some (1, s3)
    else
      if e6 = 1 then
        some (2, s3)
      else
        none
set_option maxRecDepth 100000 in
theorem dt1 {sio : Bool} {tt : Nat} {cc : Nat → Nat → Int32} {d : Nat} (hd : 10 ≤ d) {x1 : Int32} {s : aS} (hl : Ly tt cc s) {o : Int32 × aS} (h : dm1  x1 s = some o) : Q 1 sio tt cc d 1 0 [some (.ref 78), some (.int x1), some (.ref 148), none] [] s (.inl (some (.int o.1)), o.2) := by
  unfold dm1 at h
  obtain ⟨d, rfl⟩ : ∃ e, d = e + 1 := ⟨d - 1, by omega⟩
  refine Q.run zm1 4 (i' := 4) (ls' := [some (.ref 78), some (.int x1), some (.ref 148), none]) (st' := [.int x1, .ref 78, .int 0, .ref 148]) rfl ?_
  obtain ⟨z4, s3, hc2, h⟩ := bv_so h
  have hq1 : Q 1 sio tt cc d 27 0 [some (.ref 78), some (.int x1), none, none, none] [] s (z4, s3) := dt27 (by omega) hl  hc2
  rcases zN_so h with ⟨v5, hz13, h8⟩ | ⟨e6, hz13, h8⟩
  · clear h
    subst hz13
    have h := h8
    obtain ⟨r7, hv8, h9⟩ := vI_so h
    clear h
    subst hv8
    have h := h9
    refine Q.callI (gC_vi zm1 (show zM1.2.2.2.2.2[4]? = some (4, 3, .invokevirtual 7, [0, 27, 1, 0]) from rfl) zm27 (hl.lt (a := 78) (by decide)) (hl.T (a := 78) (p := (0, 7)) 0 rfl rfl) rfl (show aCr 1 78 [.int x1, .ref 78, .int 0, .ref 148] 5 = some ([some (.ref 78), some (.int x1), none, none, none], [.int 0, .ref 148]) from rfl)) hq1 ?_
    refine Q.run zm1 1 (i' := 6) (ls' := [some (.ref 78), some (.int x1), some (.ref 148), none]) (st' := [.long r7.toInt64, .int 0, .ref 148]) rfl ?_
    obtain ⟨hc9, h⟩ := ite_so h
    obtain ⟨s10, hs11, h⟩ := nx_so h
    refine Q.lS hs11 rfl (gI_of zm1 (e := (8, 1, .lastore, [])) rfl) (hq1.1.lt (a := 148) (by decide)) (by decide) (hq1.1.T (a := 148) (p := (104, 1)) 70 rfl rfl) hc9 ?_
    have hl12 : Ly tt cc s10 := by rw [hs11]; exact hq1.1.wJd
    refine Q.run zm1 2 (i' := 15) (ls' := [some (.ref 78), some (.int x1), some (.ref 148), none]) (st' := [.int 0]) rfl ?_
    cases h
    exact Q.ret (A.ri zm1 (show zM1.2.2.2.2.2[15]? = some (19, 1, .ireturn, []) from rfl) rfl rfl) hl12
  · clear h
    subst hz13
    have h := h8
    by_cases hc14 : e6 = 0
    · rw [if_pos hc14] at h
      subst hc14
      refine Q.hc (gC_vi zm1 (show zM1.2.2.2.2.2[4]? = some (4, 3, .invokevirtual 7, [0, 27, 1, 0]) from rfl) zm27 (hl.lt (a := 78) (by decide)) (hl.T (a := 78) (p := (0, 7)) 0 rfl rfl) rfl (show aCr 1 78 [.int x1, .ref 78, .int 0, .ref 148] 5 = some ([some (.ref 78), some (.int x1), none, none, none], [.int 0, .ref 148]) from rfl)) hq1 (t := 8) rfl ?_
      refine Q.run zm1 2 (i' := 10) (ls' := [some (.ref 78), some (.int x1), some (.ref 148), some (.ref (sL s3 - 1))]) (st' := [.int 1]) rfl ?_
      cases h
      exact Q.ret (A.ri zm1 (show zM1.2.2.2.2.2[10]? = some (14, 1, .ireturn, []) from rfl) rfl rfl) hq1.1
    · rw [if_neg hc14] at h
      by_cases hc15 : e6 = 1
      · rw [if_pos hc15] at h
        subst hc15
        refine Q.hc (gC_vi zm1 (show zM1.2.2.2.2.2[4]? = some (4, 3, .invokevirtual 7, [0, 27, 1, 0]) from rfl) zm27 (hl.lt (a := 78) (by decide)) (hl.T (a := 78) (p := (0, 7)) 0 rfl rfl) rfl (show aCr 1 78 [.int x1, .ref 78, .int 0, .ref 148] 5 = some ([some (.ref 78), some (.int x1), none, none, none], [.int 0, .ref 148]) from rfl)) hq1 (t := 11) rfl ?_
        refine Q.run zm1 2 (i' := 13) (ls' := [some (.ref 78), some (.int x1), some (.ref 148), some (.ref (sL s3 - 1))]) (st' := [.int 2]) rfl ?_
        cases h
        exact Q.ret (A.ri zm1 (show zM1.2.2.2.2.2[13]? = some (17, 1, .ireturn, []) from rfl) rfl rfl) hq1.1
      · rw [if_neg hc15] at h
        cases h
/-! 172 FormulaTreesModel.type(I)I -/
set_option maxRecDepth 100000 in
theorem zm172 : zP[172]? = some zM172 := rfl
def dm172_92 (k65 : Int32 → Int32 → aS → Option (Int32 × aS)) (x1 : Int32) (x4 : Int32) (s : aS) : Option (Int32 × aS) :=
  k65 x1 (x4 + 1) s
set_option maxRecDepth 100000 in
theorem dt172_92 {sio : Bool} {tt : Nat} {cc : Nat → Nat → Int32} {d : Nat} (hd : 0 ≤ d) {k65 : Int32 → Int32 → aS → Option (Int32 × aS)} (hk65 : ∀ {x1 : Int32} {x4 : Int32} {x2 : Int32} {x3 : Int32} {g5 : Option Value} {s : aS}, Ly tt cc s → ∀ {o : Int32 × aS}, k65 x1 x4 s = some o → Q 2 sio tt cc d 172 65 [some (.ref 121), some (.int x1), some (.int x2), some (.int x3), some (.int x4), g5] [] s (.inl (some (.int o.1)), o.2)) {x1 : Int32} {x4 : Int32} {x2 : Int32} {x3 : Int32} {x5 : Int32} {s : aS} (hl : Ly tt cc s) {o : Int32 × aS} (h : dm172_92 k65 x1 x4 s = some o) : Q 2 sio tt cc d 172 92 [some (.ref 121), some (.int x1), some (.int x2), some (.int x3), some (.int x4), some (.int x5)] [] s (.inl (some (.int o.1)), o.2) := by
  unfold dm172_92 at h
  refine Q.run zm172 2 (i' := 65) (ls' := [some (.ref 121), some (.int x1), some (.int x2), some (.int x3), some (.int (x4 + 1)), some (.int x5)]) (st' := []) rfl ?_
  exact hk65 hl  h
def dm172_40 (k6 : Int32 → Int32 → Int32 → Int32 → aS → Option (Int32 × aS)) (x1 : Int32) (x2 : Int32) (x4 : Int32) (y0 : Int32) (s : aS) : Option (Int32 × aS) :=
  k6 x1 x2 y0 (x4 + 1) s
set_option maxRecDepth 100000 in
theorem dt172_40 {sio : Bool} {tt : Nat} {cc : Nat → Nat → Int32} {d : Nat} (hd : 0 ≤ d) {k6 : Int32 → Int32 → Int32 → Int32 → aS → Option (Int32 × aS)} (hk6 : ∀ {x1 : Int32} {x2 : Int32} {x3 : Int32} {x4 : Int32} {g5 : Option Value} {s : aS}, Ly tt cc s → ∀ {o : Int32 × aS}, k6 x1 x2 x3 x4 s = some o → Q 2 sio tt cc d 172 6 [some (.ref 121), some (.int x1), some (.int x2), some (.int x3), some (.int x4), g5] [] s (.inl (some (.int o.1)), o.2)) {x1 : Int32} {x2 : Int32} {x4 : Int32} {y0 : Int32} {x3 : Int32} {x5 : Int32} {s : aS} (hl : Ly tt cc s) {o : Int32 × aS} (h : dm172_40 k6 x1 x2 x4 y0 s = some o) : Q 2 sio tt cc d 172 40 [some (.ref 121), some (.int x1), some (.int x2), some (.int x3), some (.int x4), some (.int x5)] [.int y0] s (.inl (some (.int o.1)), o.2) := by
  unfold dm172_40 at h
  refine Q.run zm172 3 (i' := 6) (ls' := [some (.ref 121), some (.int x1), some (.int x2), some (.int y0), some (.int (x4 + 1)), some (.int x5)]) (st' := []) rfl ?_
  exact hk6 hl  h
def dm172_65 : Nat → Int32 → Int32 → aS → Option (Int32 × aS)
  | 0, _, _, _ => none
  | n + 1, x1, x4, s =>
    if 4 ≤ x4 then
      some (sI s 121 1, s)
    else
      if ((x1 >>> ((24 - (8 * x4)) &&& 31)) &&& 255) ≤ 0 then
        dm172_92 (dm172_65 n) x1 x4 s
      else
        if aB (sI s 121 1) 256 then
          nx (wI s 122 (jN (sI s 121 1)) ((x1 >>> ((24 - (8 * x4)) &&& 31)) &&& 255)) fun s4 =>
          nx (wI s4 121 1 ((sI s4 121 1) + 1)) fun s7 =>
          dm172_92 (dm172_65 n) x1 x4 s7
        else none
set_option maxRecDepth 100000 in
theorem dt172_65 {sio : Bool} {tt : Nat} {cc : Nat → Nat → Int32} {d : Nat} (hd : 0 ≤ d) : ∀ (n : Nat) {x1 : Int32} {x4 : Int32} {x2 : Int32} {x3 : Int32} {g5 : Option Value} {s : aS} (_ : Ly tt cc s) {o : Int32 × aS} (_ : dm172_65  n x1 x4 s = some o), Q 2 sio tt cc d 172 65 [some (.ref 121), some (.int x1), some (.int x2), some (.int x3), some (.int x4), g5] [] s (.inl (some (.int o.1)), o.2) := by
  intro n
  induction n with
  | zero => intro x1 x4 x2 x3 g5 s hl o h; rw [dm172_65] at h; cases h
  | succ n ih =>
    intro x1 x4 x2 x3 g5 s hl o h
    rw [dm172_65] at h
    refine Q.run zm172 2 (i' := 67) (ls' := [some (.ref 121), some (.int x1), some (.int x2), some (.int x3), some (.int x4), g5]) (st' := [.int 4, .int x4]) rfl ?_
    by_cases hc1 : 4 ≤ x4
    · rw [if_pos hc1] at h
      refine Q.map (A.bT (gI_of zm172 (e := (121, 3, .if_icmp .ge 51, [94])) rfl) (decide_eq_true hc1)) ?_
      refine Q.run zm172 1 (i' := 95) (ls' := [some (.ref 121), some (.int x1), some (.int x2), some (.int x3), some (.int x4), g5]) (st' := [.ref 121]) rfl ?_
      refine Q.map (A.gf (gI_of zm172 (e := (173, 3, .getfield 103, [9, 1])) rfl) (hl.lt (a := 121) (by decide)) (hl.T (a := 121) (p := (9, 45)) 43 rfl rfl) (by decide) rfl) ?_
      cases h
      exact Q.ret (A.ri zm172 (show zM172.2.2.2.2.2[96]? = some (176, 1, .ireturn, []) from rfl) rfl rfl) hl
    · rw [if_neg hc1] at h
      refine Q.map (A.bF (gI_of zm172 (e := (121, 3, .if_icmp .ge 51, [94])) rfl) (fun q => hc1 (of_decide_eq_true q))) ?_
      refine Q.run zm172 11 (i' := 79) (ls' := [some (.ref 121), some (.int x1), some (.int x2), some (.int x3), some (.int x4), some (.int ((x1 >>> ((24 - (8 * x4)) &&& 31)) &&& 255))]) (st' := [.int ((x1 >>> ((24 - (8 * x4)) &&& 31)) &&& 255)]) rfl ?_
      by_cases hc2 : ((x1 >>> ((24 - (8 * x4)) &&& 31)) &&& 255) ≤ 0
      · rw [if_pos hc2] at h
        refine Q.map (A.zT (gI_of zm172 (e := (142, 3, .ifCond .le 24, [92])) rfl) (decide_eq_true hc2)) ?_
        exact dt172_92 hd ih hl  h
      · rw [if_neg hc2] at h
        refine Q.map (A.zF (gI_of zm172 (e := (142, 3, .ifCond .le 24, [92])) rfl) (fun q => hc2 (of_decide_eq_true q))) ?_
        refine Q.run zm172 1 (i' := 81) (ls' := [some (.ref 121), some (.int x1), some (.int x2), some (.int x3), some (.int x4), some (.int ((x1 >>> ((24 - (8 * x4)) &&& 31)) &&& 255))]) (st' := [.ref 121]) rfl ?_
        refine Q.map (A.gf (gI_of zm172 (e := (146, 3, .getfield 7, [9, 2])) rfl) (hl.lt (a := 121) (by decide)) (hl.T (a := 121) (p := (9, 45)) 43 rfl rfl) (by decide) (hl.R 23 rfl)) ?_
        refine Q.run zm172 1 (i' := 83) (ls' := [some (.ref 121), some (.int x1), some (.int x2), some (.int x3), some (.int x4), some (.int ((x1 >>> ((24 - (8 * x4)) &&& 31)) &&& 255))]) (st' := [.ref 121, .ref 122]) rfl ?_
        refine Q.map (A.gf (gI_of zm172 (e := (150, 3, .getfield 103, [9, 1])) rfl) (hl.lt (a := 121) (by decide)) (hl.T (a := 121) (p := (9, 45)) 43 rfl rfl) (by decide) rfl) ?_
        refine Q.run zm172 1 (i' := 85) (ls' := [some (.ref 121), some (.int x1), some (.int x2), some (.int x3), some (.int x4), some (.int ((x1 >>> ((24 - (8 * x4)) &&& 31)) &&& 255))]) (st' := [.int ((x1 >>> ((24 - (8 * x4)) &&& 31)) &&& 255), .int (sI s 121 1), .ref 122]) rfl ?_
        obtain ⟨hc3, h⟩ := ite_so h
        obtain ⟨s4, hs5, h⟩ := nx_so h
        refine Q.is hs5 rfl (gI_of zm172 (e := (155, 1, .iastore, [])) rfl) (hl.lt (a := 122) (by decide)) (by decide) (hl.T (a := 122) (p := (100, 256)) 44 rfl rfl) hc3 ?_
        have hl6 : Ly tt cc s4 := by rw [hs5]; exact hl.wId (by decide)
        refine Q.run zm172 2 (i' := 88) (ls' := [some (.ref 121), some (.int x1), some (.int x2), some (.int x3), some (.int x4), some (.int ((x1 >>> ((24 - (8 * x4)) &&& 31)) &&& 255))]) (st' := [.ref 121, .ref 121]) rfl ?_
        refine Q.map (A.gf (gI_of zm172 (e := (158, 3, .getfield 103, [9, 1])) rfl) (hl6.lt (a := 121) (by decide)) (hl6.T (a := 121) (p := (9, 45)) 43 rfl rfl) (by decide) rfl) ?_
        refine Q.run zm172 2 (i' := 91) (ls' := [some (.ref 121), some (.int x1), some (.int x2), some (.int x3), some (.int x4), some (.int ((x1 >>> ((24 - (8 * x4)) &&& 31)) &&& 255))]) (st' := [.int ((sI s4 121 1) + 1), .ref 121]) rfl ?_
        obtain ⟨s7, hs8, h⟩ := nx_so h
        refine Q.pf hs8 rfl (gI_of zm172 (e := (163, 3, .putfield 103, [9, 1, 0])) rfl) (hl6.lt (a := 121) (by decide)) (by decide) (hl6.T (a := 121) (p := (9, 45)) 43 rfl rfl) (by decide) rfl rfl ?_
        have hl9 : Ly tt cc s7 := by rw [hs8]; exact hl6.wId (by decide)
        exact dt172_92 hd ih hl9  h
def dm172_39 (k6 : Int32 → Int32 → Int32 → Int32 → aS → Option (Int32 × aS)) (x1 : Int32) (x2 : Int32) (x4 : Int32) (s : aS) : Option (Int32 × aS) :=
  dm172_40 k6 x1 x2 x4 0 s
set_option maxRecDepth 100000 in
theorem dt172_39 {sio : Bool} {tt : Nat} {cc : Nat → Nat → Int32} {d : Nat} (hd : 0 ≤ d) {k6 : Int32 → Int32 → Int32 → Int32 → aS → Option (Int32 × aS)} (hk6 : ∀ {x1 : Int32} {x2 : Int32} {x3 : Int32} {x4 : Int32} {g5 : Option Value} {s : aS}, Ly tt cc s → ∀ {o : Int32 × aS}, k6 x1 x2 x3 x4 s = some o → Q 2 sio tt cc d 172 6 [some (.ref 121), some (.int x1), some (.int x2), some (.int x3), some (.int x4), g5] [] s (.inl (some (.int o.1)), o.2)) {x1 : Int32} {x2 : Int32} {x4 : Int32} {x3 : Int32} {x5 : Int32} {s : aS} (hl : Ly tt cc s) {o : Int32 × aS} (h : dm172_39 k6 x1 x2 x4 s = some o) : Q 2 sio tt cc d 172 39 [some (.ref 121), some (.int x1), some (.int x2), some (.int x3), some (.int x4), some (.int x5)] [] s (.inl (some (.int o.1)), o.2) := by
  unfold dm172_39 at h
  refine Q.run zm172 1 (i' := 40) (ls' := [some (.ref 121), some (.int x1), some (.int x2), some (.int x3), some (.int x4), some (.int x5)]) (st' := [.int 0]) rfl ?_
  exact dt172_40 hd hk6 hl  h
def dm172_37 (k6 : Int32 → Int32 → Int32 → Int32 → aS → Option (Int32 × aS)) (x1 : Int32) (x2 : Int32) (x4 : Int32) (s : aS) : Option (Int32 × aS) :=
  dm172_40 k6 x1 x2 x4 1 s
set_option maxRecDepth 100000 in
theorem dt172_37 {sio : Bool} {tt : Nat} {cc : Nat → Nat → Int32} {d : Nat} (hd : 0 ≤ d) {k6 : Int32 → Int32 → Int32 → Int32 → aS → Option (Int32 × aS)} (hk6 : ∀ {x1 : Int32} {x2 : Int32} {x3 : Int32} {x4 : Int32} {g5 : Option Value} {s : aS}, Ly tt cc s → ∀ {o : Int32 × aS}, k6 x1 x2 x3 x4 s = some o → Q 2 sio tt cc d 172 6 [some (.ref 121), some (.int x1), some (.int x2), some (.int x3), some (.int x4), g5] [] s (.inl (some (.int o.1)), o.2)) {x1 : Int32} {x2 : Int32} {x4 : Int32} {x3 : Int32} {x5 : Int32} {s : aS} (hl : Ly tt cc s) {o : Int32 × aS} (h : dm172_37 k6 x1 x2 x4 s = some o) : Q 2 sio tt cc d 172 37 [some (.ref 121), some (.int x1), some (.int x2), some (.int x3), some (.int x4), some (.int x5)] [] s (.inl (some (.int o.1)), o.2) := by
  unfold dm172_37 at h
  refine Q.run zm172 2 (i' := 40) (ls' := [some (.ref 121), some (.int x1), some (.int x2), some (.int x3), some (.int x4), some (.int x5)]) (st' := [.int 1]) rfl ?_
  exact dt172_40 hd hk6 hl  h
def dm172_57 (x1 : Int32) (y1 : Int32) (s : aS) : Option (Int32 × aS) :=
  nx (wI s 121 0 y1) fun s1 =>
  if (sI s1 121 0) ≤ 0 then
    dm172_65 5000 x1 0 s1
  else
    some (0, s1)
set_option maxRecDepth 100000 in
theorem dt172_57 {sio : Bool} {tt : Nat} {cc : Nat → Nat → Int32} {d : Nat} (hd : 0 ≤ d) {x1 : Int32} {y1 : Int32} {x2 : Int32} {x3 : Int32} {x4 : Int32} {g5 : Option Value} {s : aS} (hl : Ly tt cc s) {o : Int32 × aS} (h : dm172_57  x1 y1 s = some o) : Q 2 sio tt cc d 172 57 [some (.ref 121), some (.int x1), some (.int x2), some (.int x3), some (.int x4), g5] [.int y1, .ref 121] s (.inl (some (.int o.1)), o.2) := by
  unfold dm172_57 at h
  obtain ⟨s1, hs2, h⟩ := nx_so h
  refine Q.pf hs2 rfl (gI_of zm172 (e := (103, 3, .putfield 89, [9, 0, 0])) rfl) (hl.lt (a := 121) (by decide)) (by decide) (hl.T (a := 121) (p := (9, 45)) 43 rfl rfl) (by decide) rfl rfl ?_
  have hl3 : Ly tt cc s1 := by rw [hs2]; exact hl.wId (by decide)
  refine Q.run zm172 1 (i' := 59) (ls' := [some (.ref 121), some (.int x1), some (.int x2), some (.int x3), some (.int x4), g5]) (st' := [.ref 121]) rfl ?_
  refine Q.map (A.gf (gI_of zm172 (e := (107, 3, .getfield 89, [9, 0])) rfl) (hl3.lt (a := 121) (by decide)) (hl3.T (a := 121) (p := (9, 45)) 43 rfl rfl) (by decide) rfl) ?_
  by_cases hc4 : (sI s1 121 0) ≤ 0
  · rw [if_pos hc4] at h
    refine Q.map (A.zT (gI_of zm172 (e := (110, 3, .ifCond .le 5, [63])) rfl) (decide_eq_true hc4)) ?_
    refine Q.run zm172 2 (i' := 65) (ls' := [some (.ref 121), some (.int x1), some (.int x2), some (.int x3), some (.int 0), g5]) (st' := []) rfl ?_
    exact dt172_65 hd _ hl3  h
  · rw [if_neg hc4] at h
    refine Q.map (A.zF (gI_of zm172 (e := (110, 3, .ifCond .le 5, [63])) rfl) (fun q => hc4 (of_decide_eq_true q))) ?_
    refine Q.run zm172 1 (i' := 62) (ls' := [some (.ref 121), some (.int x1), some (.int x2), some (.int x3), some (.int x4), g5]) (st' := [.int 0]) rfl ?_
    cases h
    exact Q.ret (A.ri zm172 (show zM172.2.2.2.2.2[62]? = some (114, 1, .ireturn, []) from rfl) rfl rfl) hl3
def dm172_26 (k6 : Int32 → Int32 → Int32 → Int32 → aS → Option (Int32 × aS)) (x1 : Int32) (x3 : Int32) (x4 : Int32) (x5 : Int32) (y0 : Int32) (s : aS) : Option (Int32 × aS) :=
  if x3 = 0 then
    if x5 ≤ 0 then
      dm172_39 k6 x1 y0 x4 s
    else
      if x5 < 32 then
        dm172_37 k6 x1 y0 x4 s
      else
        if x5 ≤ 126 then
          dm172_39 k6 x1 y0 x4 s
        else
          dm172_37 k6 x1 y0 x4 s
  else
    dm172_37 k6 x1 y0 x4 s
set_option maxRecDepth 100000 in
theorem dt172_26 {sio : Bool} {tt : Nat} {cc : Nat → Nat → Int32} {d : Nat} (hd : 0 ≤ d) {k6 : Int32 → Int32 → Int32 → Int32 → aS → Option (Int32 × aS)} (hk6 : ∀ {x1 : Int32} {x2 : Int32} {x3 : Int32} {x4 : Int32} {g5 : Option Value} {s : aS}, Ly tt cc s → ∀ {o : Int32 × aS}, k6 x1 x2 x3 x4 s = some o → Q 2 sio tt cc d 172 6 [some (.ref 121), some (.int x1), some (.int x2), some (.int x3), some (.int x4), g5] [] s (.inl (some (.int o.1)), o.2)) {x1 : Int32} {x3 : Int32} {x4 : Int32} {x5 : Int32} {y0 : Int32} {x2 : Int32} {s : aS} (hl : Ly tt cc s) {o : Int32 × aS} (h : dm172_26 k6 x1 x3 x4 x5 y0 s = some o) : Q 2 sio tt cc d 172 26 [some (.ref 121), some (.int x1), some (.int x2), some (.int x3), some (.int x4), some (.int x5)] [.int y0] s (.inl (some (.int o.1)), o.2) := by
  unfold dm172_26 at h
  refine Q.run zm172 2 (i' := 28) (ls' := [some (.ref 121), some (.int x1), some (.int y0), some (.int x3), some (.int x4), some (.int x5)]) (st' := [.int x3]) rfl ?_
  by_cases hc1 : x3 = 0
  · rw [if_pos hc1] at h
    refine Q.map (A.zF (gI_of zm172 (e := (43, 3, .ifCond .ne 22, [37])) rfl) (fun q => of_decide_eq_true q hc1)) ?_
    refine Q.run zm172 1 (i' := 30) (ls' := [some (.ref 121), some (.int x1), some (.int y0), some (.int x3), some (.int x4), some (.int x5)]) (st' := [.int x5]) rfl ?_
    by_cases hc2 : x5 ≤ 0
    · rw [if_pos hc2] at h
      refine Q.map (A.zT (gI_of zm172 (e := (48, 3, .ifCond .le 21, [39])) rfl) (decide_eq_true hc2)) ?_
      exact dt172_39 hd hk6 hl  h
    · rw [if_neg hc2] at h
      refine Q.map (A.zF (gI_of zm172 (e := (48, 3, .ifCond .le 21, [39])) rfl) (fun q => hc2 (of_decide_eq_true q))) ?_
      refine Q.run zm172 2 (i' := 33) (ls' := [some (.ref 121), some (.int x1), some (.int y0), some (.int x3), some (.int x4), some (.int x5)]) (st' := [.int 32, .int x5]) rfl ?_
      by_cases hc3 : x5 < 32
      · rw [if_pos hc3] at h
        refine Q.map (A.bT (gI_of zm172 (e := (55, 3, .if_icmp .lt 10, [37])) rfl) (decide_eq_true hc3)) ?_
        exact dt172_37 hd hk6 hl  h
      · rw [if_neg hc3] at h
        refine Q.map (A.bF (gI_of zm172 (e := (55, 3, .if_icmp .lt 10, [37])) rfl) (fun q => hc3 (of_decide_eq_true q))) ?_
        refine Q.run zm172 2 (i' := 36) (ls' := [some (.ref 121), some (.int x1), some (.int y0), some (.int x3), some (.int x4), some (.int x5)]) (st' := [.int 126, .int x5]) rfl ?_
        by_cases hc4 : x5 ≤ 126
        · rw [if_pos hc4] at h
          refine Q.map (A.bT (gI_of zm172 (e := (62, 3, .if_icmp .le 7, [39])) rfl) (decide_eq_true hc4)) ?_
          exact dt172_39 hd hk6 hl  h
        · rw [if_neg hc4] at h
          refine Q.map (A.bF (gI_of zm172 (e := (62, 3, .if_icmp .le 7, [39])) rfl) (fun q => hc4 (of_decide_eq_true q))) ?_
          exact dt172_37 hd hk6 hl  h
  · rw [if_neg hc1] at h
    refine Q.map (A.zT (gI_of zm172 (e := (43, 3, .ifCond .ne 22, [37])) rfl) (decide_eq_true hc1)) ?_
    exact dt172_37 hd hk6 hl  h
def dm172_6 : Nat → Int32 → Int32 → Int32 → Int32 → aS → Option (Int32 × aS)
  | 0, _, _, _, _, _ => none
  | n + 1, x1, x2, x3, x4, s =>
    if 4 ≤ x4 then
      if x3 = 0 then
        if ((sI s 121 1) + x2) ≤ 256 then
          dm172_57 x1 0 s
        else
          dm172_57 x1 2 s
      else
        dm172_57 x1 1 s
    else
      if ((x1 >>> ((24 - (8 * x4)) &&& 31)) &&& 255) ≤ 0 then
        dm172_26 (dm172_6 n) x1 x3 x4 ((x1 >>> ((24 - (8 * x4)) &&& 31)) &&& 255) x2 s
      else
        dm172_26 (dm172_6 n) x1 x3 x4 ((x1 >>> ((24 - (8 * x4)) &&& 31)) &&& 255) (x2 + 1) s
set_option maxRecDepth 100000 in
theorem dt172_6 {sio : Bool} {tt : Nat} {cc : Nat → Nat → Int32} {d : Nat} (hd : 0 ≤ d) : ∀ (n : Nat) {x1 : Int32} {x2 : Int32} {x3 : Int32} {x4 : Int32} {g5 : Option Value} {s : aS} (_ : Ly tt cc s) {o : Int32 × aS} (_ : dm172_6  n x1 x2 x3 x4 s = some o), Q 2 sio tt cc d 172 6 [some (.ref 121), some (.int x1), some (.int x2), some (.int x3), some (.int x4), g5] [] s (.inl (some (.int o.1)), o.2) := by
  intro n
  induction n with
  | zero => intro x1 x2 x3 x4 g5 s hl o h; rw [dm172_6] at h; cases h
  | succ n ih =>
    intro x1 x2 x3 x4 g5 s hl o h
    rw [dm172_6] at h
    refine Q.run zm172 2 (i' := 8) (ls' := [some (.ref 121), some (.int x1), some (.int x2), some (.int x3), some (.int x4), g5]) (st' := [.int 4, .int x4]) rfl ?_
    by_cases hc1 : 4 ≤ x4
    · rw [if_pos hc1] at h
      refine Q.map (A.bT (gI_of zm172 (e := (10, 3, .if_icmp .ge 67, [43])) rfl) (decide_eq_true hc1)) ?_
      refine Q.run zm172 2 (i' := 45) (ls' := [some (.ref 121), some (.int x1), some (.int x2), some (.int x3), some (.int x4), g5]) (st' := [.int x3, .ref 121]) rfl ?_
      by_cases hc2 : x3 = 0
      · rw [if_pos hc2] at h
        refine Q.map (A.zT (gI_of zm172 (e := (79, 3, .ifCond .eq 7, [48])) rfl) (decide_eq_true hc2)) ?_
        refine Q.run zm172 1 (i' := 49) (ls' := [some (.ref 121), some (.int x1), some (.int x2), some (.int x3), some (.int x4), g5]) (st' := [.ref 121, .ref 121]) rfl ?_
        refine Q.map (A.gf (gI_of zm172 (e := (87, 3, .getfield 103, [9, 1])) rfl) (hl.lt (a := 121) (by decide)) (hl.T (a := 121) (p := (9, 45)) 43 rfl rfl) (by decide) rfl) ?_
        refine Q.run zm172 3 (i' := 53) (ls' := [some (.ref 121), some (.int x1), some (.int x2), some (.int x3), some (.int x4), g5]) (st' := [.int 256, .int ((sI s 121 1) + x2), .ref 121]) rfl ?_
        by_cases hc3 : ((sI s 121 1) + x2) ≤ 256
        · rw [if_pos hc3] at h
          refine Q.map (A.bT (gI_of zm172 (e := (95, 3, .if_icmp .le 7, [56])) rfl) (decide_eq_true hc3)) ?_
          refine Q.run zm172 1 (i' := 57) (ls' := [some (.ref 121), some (.int x1), some (.int x2), some (.int x3), some (.int x4), g5]) (st' := [.int 0, .ref 121]) rfl ?_
          exact dt172_57 hd hl  h
        · rw [if_neg hc3] at h
          refine Q.map (A.bF (gI_of zm172 (e := (95, 3, .if_icmp .le 7, [56])) rfl) (fun q => hc3 (of_decide_eq_true q))) ?_
          refine Q.run zm172 2 (i' := 57) (ls' := [some (.ref 121), some (.int x1), some (.int x2), some (.int x3), some (.int x4), g5]) (st' := [.int 2, .ref 121]) rfl ?_
          exact dt172_57 hd hl  h
      · rw [if_neg hc2] at h
        refine Q.map (A.zF (gI_of zm172 (e := (79, 3, .ifCond .eq 7, [48])) rfl) (fun q => hc2 (of_decide_eq_true q))) ?_
        refine Q.run zm172 2 (i' := 57) (ls' := [some (.ref 121), some (.int x1), some (.int x2), some (.int x3), some (.int x4), g5]) (st' := [.int 1, .ref 121]) rfl ?_
        exact dt172_57 hd hl  h
    · rw [if_neg hc1] at h
      refine Q.map (A.bF (gI_of zm172 (e := (10, 3, .if_icmp .ge 67, [43])) rfl) (fun q => hc1 (of_decide_eq_true q))) ?_
      refine Q.run zm172 11 (i' := 20) (ls' := [some (.ref 121), some (.int x1), some (.int x2), some (.int x3), some (.int x4), some (.int ((x1 >>> ((24 - (8 * x4)) &&& 31)) &&& 255))]) (st' := [.int ((x1 >>> ((24 - (8 * x4)) &&& 31)) &&& 255)]) rfl ?_
      by_cases hc4 : ((x1 >>> ((24 - (8 * x4)) &&& 31)) &&& 255) ≤ 0
      · rw [if_pos hc4] at h
        refine Q.map (A.zT (gI_of zm172 (e := (31, 3, .ifCond .le 9, [25])) rfl) (decide_eq_true hc4)) ?_
        refine Q.run zm172 1 (i' := 26) (ls' := [some (.ref 121), some (.int x1), some (.int x2), some (.int x3), some (.int x4), some (.int ((x1 >>> ((24 - (8 * x4)) &&& 31)) &&& 255))]) (st' := [.int x2]) rfl ?_
        exact dt172_26 hd ih hl  h
      · rw [if_neg hc4] at h
        refine Q.map (A.zF (gI_of zm172 (e := (31, 3, .ifCond .le 9, [25])) rfl) (fun q => hc4 (of_decide_eq_true q))) ?_
        refine Q.run zm172 4 (i' := 26) (ls' := [some (.ref 121), some (.int x1), some (.int x2), some (.int x3), some (.int x4), some (.int ((x1 >>> ((24 - (8 * x4)) &&& 31)) &&& 255))]) (st' := [.int (x2 + 1)]) rfl ?_
        exact dt172_26 hd ih hl  h
def dm172 (x1 : Int32) (s : aS) : Option (Int32 × aS) :=
  dm172_6 5000 x1 0 0 0 s
set_option maxRecDepth 100000 in
theorem dt172 {sio : Bool} {tt : Nat} {cc : Nat → Nat → Int32} {d : Nat} (hd : 0 ≤ d) {x1 : Int32} {s : aS} (hl : Ly tt cc s) {o : Int32 × aS} (h : dm172  x1 s = some o) : Q 2 sio tt cc d 172 0 [some (.ref 121), some (.int x1), none, none, none, none] [] s (.inl (some (.int o.1)), o.2) := by
  unfold dm172 at h
  refine Q.run zm172 6 (i' := 6) (ls' := [some (.ref 121), some (.int x1), some (.int 0), some (.int 0), some (.int 0), none]) (st' := []) rfl ?_
  exact dt172_6 hd _ hl  h
/-! 26 FormulaTrees$Letters.clear()V -/
set_option maxRecDepth 100000 in
theorem zm26 : zP[26]? = some zM26 := rfl
def dm26 (b0 : Nat) (s : aS) : Option (aS) :=
  nx (wI s b0 1 0) fun s1 =>
  some s1
set_option maxRecDepth 100000 in
theorem dt26 {sio : Bool} {tt : Nat} {cc : Nat → Nat → Int32} {d : Nat} (hd : 0 ≤ d) {b0 : Nat} {s : aS} (hl : Ly tt cc s) (hk_b0 : aK s b0 1) {o : aS} (h : dm26  b0 s = some o) : Q 1 sio tt cc d 26 0 [some (.ref b0)] [] s (.inl none, o) := by
  unfold dm26 at h
  refine Q.run zm26 2 (i' := 2) (ls' := [some (.ref b0)]) (st' := [.int 0, .ref b0]) rfl ?_
  obtain ⟨s1, hs2, h⟩ := nx_so h
  refine Q.pf hs2 (hl.g1 hk_b0) (gI_of zm26 (e := (2, 3, .putfield 15, [1, 1, 0])) rfl) hk_b0.1 (hl.le hk_b0).2.2.2.2 (hl.le hk_b0).1 (by decide) rfl rfl ?_
  have hl3 : Ly tt cc s1 := by rw [hs2]; exact hl.wId (hl.le hk_b0).2.2.2.2
  have hr4 : aK s1 b0 1 := by rw [hs2]; exact hk_b0
  cases h
  exact Q.ret (A.rv zm26 (show zM26.2.2.2.2.2[3]? = some (5, 1, .return_, []) from rfl) rfl) hl3
/-! 25 FormulaTrees.erase()V -/
set_option maxRecDepth 100000 in
theorem zm25 : zP[25]? = some zM25 := rfl
def dm25 (s : aS) : Option (aS) :=
  bu (dm26 79 s) fun s3 =>
  some s3
set_option maxRecDepth 100000 in
theorem dt25 {sio : Bool} {tt : Nat} {cc : Nat → Nat → Int32} {d : Nat} (hd : 1 ≤ d) {s : aS} (hl : Ly tt cc s) {o : aS} (h : dm25  s = some o) : Q 1 sio tt cc d 25 0 [some (.ref 78)] [] s (.inl none, o) := by
  unfold dm25 at h
  obtain ⟨d, rfl⟩ : ∃ e, d = e + 1 := ⟨d - 1, by omega⟩
  refine Q.run zm25 1 (i' := 1) (ls' := [some (.ref 78)]) (st' := [.ref 78]) rfl ?_
  refine Q.map (A.gf (gI_of zm25 (e := (1, 3, .getfield 14, [0, 0])) rfl) (hl.lt (a := 78) (by decide)) (hl.T (a := 78) (p := (0, 7)) 0 rfl rfl) (by decide) (hl.R 0 rfl)) ?_
  obtain ⟨s3, hc2, h⟩ := bu_so h
  have hq1 : Q 1 sio tt cc d 26 0 [some (.ref 79)] [] s (.inl none, s3) := dt26 (by omega) hl (hl.Kd (a := 79) (c := 1) (n := 2) 1 rfl rfl (by decide)) hc2
  refine Q.callV (gC_vi zm25 (show zM25.2.2.2.2.2[2]? = some (4, 3, .invokevirtual 77, [0, 26, 0, 1]) from rfl) zm26 (hl.lt (a := 79) (by decide)) (hl.T (a := 79) (p := (1, 2)) 1 rfl rfl) rfl (show aCr 0 79 [.ref 79] 1 = some ([some (.ref 79)], []) from rfl)) hq1 ?_
  cases h
  exact Q.ret (A.rv zm25 (show zM25.2.2.2.2.2[3]? = some (7, 1, .return_, []) from rfl) rfl) hq1.1
/-! 173 FormulaTreesModel.erase()V -/
set_option maxRecDepth 100000 in
theorem zm173 : zP[173]? = some zM173 := rfl
def dm173 (s : aS) : Option (aS) :=
  nx (wI s 121 0 0) fun s1 =>
  nx (wI s1 121 1 0) fun s4 =>
  some s4
set_option maxRecDepth 100000 in
theorem dt173 {sio : Bool} {tt : Nat} {cc : Nat → Nat → Int32} {d : Nat} (hd : 0 ≤ d) {s : aS} (hl : Ly tt cc s) {o : aS} (h : dm173  s = some o) : Q 2 sio tt cc d 173 0 [some (.ref 121)] [] s (.inl none, o) := by
  unfold dm173 at h
  refine Q.run zm173 2 (i' := 2) (ls' := [some (.ref 121)]) (st' := [.int 0, .ref 121]) rfl ?_
  obtain ⟨s1, hs2, h⟩ := nx_so h
  refine Q.pf hs2 rfl (gI_of zm173 (e := (2, 3, .putfield 89, [9, 0, 0])) rfl) (hl.lt (a := 121) (by decide)) (by decide) (hl.T (a := 121) (p := (9, 45)) 43 rfl rfl) (by decide) rfl rfl ?_
  have hl3 : Ly tt cc s1 := by rw [hs2]; exact hl.wId (by decide)
  refine Q.run zm173 2 (i' := 5) (ls' := [some (.ref 121)]) (st' := [.int 0, .ref 121]) rfl ?_
  obtain ⟨s4, hs5, h⟩ := nx_so h
  refine Q.pf hs5 rfl (gI_of zm173 (e := (7, 3, .putfield 103, [9, 1, 0])) rfl) (hl3.lt (a := 121) (by decide)) (by decide) (hl3.T (a := 121) (p := (9, 45)) 43 rfl rfl) (by decide) rfl rfl ?_
  have hl6 : Ly tt cc s4 := by rw [hs5]; exact hl3.wId (by decide)
  cases h
  exact Q.ret (A.rv zm173 (show zM173.2.2.2.2.2[6]? = some (10, 1, .return_, []) from rfl) rfl) hl6
/-! 34 FormulaTrees$Letters.at(I)I -/
set_option maxRecDepth 100000 in
theorem zm34 : zP[34]? = some zM34 := rfl
def dm34 (b0 : Nat) (x1 : Int32) (s : aS) : Option (Int32) :=
  if x1 < 0 then
    some (-1)
  else
    if (sI s b0 1) ≤ x1 then
      some (-1)
    else
      if aB x1 (sT s (b0 + 1)).2 then
        some (sI s (b0 + 1) (jN x1))
      else none
set_option maxRecDepth 100000 in
theorem dt34 {sio : Bool} {tt : Nat} {cc : Nat → Nat → Int32} {d : Nat} (hd : 0 ≤ d) {b0 : Nat} {x1 : Int32} {s : aS} (hl : Ly tt cc s) (hk_b0 : aK s b0 1) {o : Int32} (h : dm34  b0 x1 s = some o) : Q 1 sio tt cc d 34 0 [some (.ref b0), some (.int x1)] [] s (.inl (some (.int o)), s) := by
  unfold dm34 at h
  refine Q.run zm34 1 (i' := 1) (ls' := [some (.ref b0), some (.int x1)]) (st' := [.int x1]) rfl ?_
  by_cases hc1 : x1 < 0
  · rw [if_pos hc1] at h
    refine Q.map (A.zT (gI_of zm34 (e := (1, 3, .ifCond .lt 20, [11])) rfl) (decide_eq_true hc1)) ?_
    refine Q.run zm34 1 (i' := 12) (ls' := [some (.ref b0), some (.int x1)]) (st' := [.int (-1)]) rfl ?_
    cases h
    exact Q.ret (A.ri zm34 (show zM34.2.2.2.2.2[12]? = some (22, 1, .ireturn, []) from rfl) rfl rfl) hl
  · rw [if_neg hc1] at h
    refine Q.map (A.zF (gI_of zm34 (e := (1, 3, .ifCond .lt 20, [11])) rfl) (fun q => hc1 (of_decide_eq_true q))) ?_
    refine Q.run zm34 2 (i' := 4) (ls' := [some (.ref b0), some (.int x1)]) (st' := [.ref b0, .int x1]) rfl ?_
    refine Q.map (A.gf (gI_of zm34 (e := (6, 3, .getfield 15, [1, 1])) rfl) hk_b0.1 (hl.le hk_b0).1 (by decide) rfl) ?_
    by_cases hc2 : (sI s b0 1) ≤ x1
    · rw [if_pos hc2] at h
      refine Q.map (A.bT (gI_of zm34 (e := (9, 3, .if_icmp .ge 12, [11])) rfl) (decide_eq_true hc2)) ?_
      refine Q.run zm34 1 (i' := 12) (ls' := [some (.ref b0), some (.int x1)]) (st' := [.int (-1)]) rfl ?_
      cases h
      exact Q.ret (A.ri zm34 (show zM34.2.2.2.2.2[12]? = some (22, 1, .ireturn, []) from rfl) rfl rfl) hl
    · rw [if_neg hc2] at h
      refine Q.map (A.bF (gI_of zm34 (e := (9, 3, .if_icmp .ge 12, [11])) rfl) (fun q => hc2 (of_decide_eq_true q))) ?_
      refine Q.run zm34 1 (i' := 7) (ls' := [some (.ref b0), some (.int x1)]) (st' := [.ref b0]) rfl ?_
      refine Q.map (A.gf (gI_of zm34 (e := (13, 3, .getfield 9, [1, 0])) rfl) hk_b0.1 (hl.le hk_b0).1 (by decide) (hl.le hk_b0).2.1) ?_
      refine Q.run zm34 1 (i' := 9) (ls' := [some (.ref b0), some (.int x1)]) (st' := [.int x1, .ref (b0 + 1)]) rfl ?_
      obtain ⟨hc3, h⟩ := ite_so h
      refine Q.map (A.ca (gI_of zm34 (e := (17, 1, .caload, [])) rfl) (hl.le hk_b0).2.2.1 (pr2 (hl.le hk_b0).2.2.2.1) hc3) ?_
      refine Q.run zm34 1 (i' := 12) (ls' := [some (.ref b0), some (.int x1)]) (st' := [.int (sI s (b0 + 1) (jN x1))]) rfl ?_
      cases h
      exact Q.ret (A.ri zm34 (show zM34.2.2.2.2.2[12]? = some (22, 1, .ireturn, []) from rfl) rfl rfl) hl
/-! 35 FormulaTrees$Signs.great(I)I -/
set_option maxRecDepth 100000 in
theorem zm35 : zP[35]? = some zM35 := rfl
def dm35 (x0 : Int32) : Option (Int32) :=
  if x0 < 97 then
    some x0
  else
    if 122 < x0 then
      some x0
    else
      some ((x0 - 97) + 65)
set_option maxRecDepth 100000 in
theorem dt35 {sio : Bool} {tt : Nat} {cc : Nat → Nat → Int32} {d : Nat} (hd : 0 ≤ d) {x0 : Int32} {s : aS} (hl : Ly tt cc s) {o : Int32} (h : dm35  x0 = some o) : Q 1 sio tt cc d 35 0 [some (.int x0)] [] s (.inl (some (.int o)), s) := by
  unfold dm35 at h
  refine Q.run zm35 2 (i' := 2) (ls' := [some (.int x0)]) (st' := [.int 97, .int x0]) rfl ?_
  by_cases hc1 : x0 < 97
  · rw [if_pos hc1] at h
    refine Q.map (A.bT (gI_of zm35 (e := (3, 3, .if_icmp .lt 19, [12])) rfl) (decide_eq_true hc1)) ?_
    refine Q.run zm35 1 (i' := 13) (ls' := [some (.int x0)]) (st' := [.int x0]) rfl ?_
    cases h
    exact Q.ret (A.ri zm35 (show zM35.2.2.2.2.2[13]? = some (23, 1, .ireturn, []) from rfl) rfl rfl) hl
  · rw [if_neg hc1] at h
    refine Q.map (A.bF (gI_of zm35 (e := (3, 3, .if_icmp .lt 19, [12])) rfl) (fun q => hc1 (of_decide_eq_true q))) ?_
    refine Q.run zm35 2 (i' := 5) (ls' := [some (.int x0)]) (st' := [.int 122, .int x0]) rfl ?_
    by_cases hc2 : 122 < x0
    · rw [if_pos hc2] at h
      refine Q.map (A.bT (gI_of zm35 (e := (9, 3, .if_icmp .gt 13, [12])) rfl) (decide_eq_true hc2)) ?_
      refine Q.run zm35 1 (i' := 13) (ls' := [some (.int x0)]) (st' := [.int x0]) rfl ?_
      cases h
      exact Q.ret (A.ri zm35 (show zM35.2.2.2.2.2[13]? = some (23, 1, .ireturn, []) from rfl) rfl rfl) hl
    · rw [if_neg hc2] at h
      refine Q.map (A.bF (gI_of zm35 (e := (9, 3, .if_icmp .gt 13, [12])) rfl) (fun q => hc2 (of_decide_eq_true q))) ?_
      refine Q.run zm35 6 (i' := 13) (ls' := [some (.int x0)]) (st' := [.int ((x0 - 97) + 65)]) rfl ?_
      cases h
      exact Q.ret (A.ri zm35 (show zM35.2.2.2.2.2[13]? = some (23, 1, .ireturn, []) from rfl) rfl rfl) hl
/-! 33 FormulaTrees$Letters.isLike(LFormulaTrees$Letters;)Z -/
set_option maxRecDepth 100000 in
theorem zm33 : zP[33]? = some zM33 := rfl
def dm33_29 (k11 : Nat → Nat → Int32 → Int32 → aS → Option (Int32)) (b0 : Nat) (b1 : Nat) (x3 : Int32) (y0 : Int32) (s : aS) : Option (Int32) :=
  k11 b0 b1 y0 (x3 + 1) s
set_option maxRecDepth 100000 in
theorem dt33_29 {sio : Bool} {tt : Nat} {cc : Nat → Nat → Int32} {d : Nat} (hd : 1 ≤ d) {k11 : Nat → Nat → Int32 → Int32 → aS → Option (Int32)} (hk11 : ∀ {b0 : Nat} {b1 : Nat} {x2 : Int32} {x3 : Int32} {s : aS}, Ly tt cc s → aK s b0 1 → aK s b1 1 → ∀ {o : Int32}, k11 b0 b1 x2 x3 s = some o → Q 1 sio tt cc d 33 11 [some (.ref b0), some (.ref b1), some (.int x2), some (.int x3)] [] s (.inl (some (.int o)), s)) {b0 : Nat} {b1 : Nat} {x3 : Int32} {y0 : Int32} {x2 : Int32} {s : aS} (hl : Ly tt cc s) (hk_b0 : aK s b0 1) (hk_b1 : aK s b1 1) {o : Int32} (h : dm33_29 k11 b0 b1 x3 y0 s = some o) : Q 1 sio tt cc d 33 29 [some (.ref b0), some (.ref b1), some (.int x2), some (.int x3)] [.int y0] s (.inl (some (.int o)), s) := by
  unfold dm33_29 at h
  obtain ⟨d, rfl⟩ : ∃ e, d = e + 1 := ⟨d - 1, by omega⟩
  refine Q.run zm33 3 (i' := 11) (ls' := [some (.ref b0), some (.ref b1), some (.int y0), some (.int (x3 + 1))]) (st' := []) rfl ?_
  exact hk11 hl hk_b0 hk_b1 h
def dm33_11 : Nat → Nat → Nat → Int32 → Int32 → aS → Option (Int32)
  | 0, _, _, _, _, _ => none
  | n + 1, b0, b1, x2, x3, s =>
    if (sI s b0 1) ≤ x3 then
      if x2 = 0 ∨ x2 = 1 then
        some x2
      else none
    else
      if x2 = 0 then
        if x2 = 0 ∨ x2 = 1 then
          some x2
        else none
      else
        bu (dm34 b0 x3 s) fun r7 =>
        bu (dm35 r7) fun r10 =>
        bu (dm34 b1 x3 s) fun r13 =>
        bu (dm35 r13) fun r16 =>
        if r10 = r16 then
          dm33_29 (dm33_11 n) b0 b1 x3 1 s
        else
          dm33_29 (dm33_11 n) b0 b1 x3 0 s
set_option maxRecDepth 100000 in
theorem dt33_11 {sio : Bool} {tt : Nat} {cc : Nat → Nat → Int32} {d : Nat} (hd : 1 ≤ d) : ∀ (n : Nat) {b0 : Nat} {b1 : Nat} {x2 : Int32} {x3 : Int32} {s : aS} (_ : Ly tt cc s) (_ : aK s b0 1) (_ : aK s b1 1) {o : Int32} (_ : dm33_11  n b0 b1 x2 x3 s = some o), Q 1 sio tt cc d 33 11 [some (.ref b0), some (.ref b1), some (.int x2), some (.int x3)] [] s (.inl (some (.int o)), s) := by
  obtain ⟨d, rfl⟩ : ∃ e, d = e + 1 := ⟨d - 1, by omega⟩
  intro n
  induction n with
  | zero => intro b0 b1 x2 x3 s hl hk_b0 hk_b1 o h; rw [dm33_11] at h; cases h
  | succ n ih =>
    intro b0 b1 x2 x3 s hl hk_b0 hk_b1 o h
    rw [dm33_11] at h
    refine Q.run zm33 2 (i' := 13) (ls' := [some (.ref b0), some (.ref b1), some (.int x2), some (.int x3)]) (st' := [.ref b0, .int x3]) rfl ?_
    refine Q.map (A.gf (gI_of zm33 (e := (21, 3, .getfield 15, [1, 1])) rfl) hk_b0.1 (hl.le hk_b0).1 (by decide) rfl) ?_
    by_cases hc1 : (sI s b0 1) ≤ x3
    · rw [if_pos hc1] at h
      refine Q.map (A.bT (gI_of zm33 (e := (24, 3, .if_icmp .ge 38, [32])) rfl) (decide_eq_true hc1)) ?_
      refine Q.run zm33 1 (i' := 33) (ls' := [some (.ref b0), some (.ref b1), some (.int x2), some (.int x3)]) (st' := [.int x2]) rfl ?_
      obtain ⟨hc2, h⟩ := ite_so h
      cases h
      exact Q.ret (A.ri zm33 (show zM33.2.2.2.2.2[33]? = some (63, 1, .ireturn, []) from rfl) rfl (fit1 hc2)) hl
    · rw [if_neg hc1] at h
      refine Q.map (A.bF (gI_of zm33 (e := (24, 3, .if_icmp .ge 38, [32])) rfl) (fun q => hc1 (of_decide_eq_true q))) ?_
      refine Q.run zm33 1 (i' := 16) (ls' := [some (.ref b0), some (.ref b1), some (.int x2), some (.int x3)]) (st' := [.int x2]) rfl ?_
      by_cases hc3 : x2 = 0
      · rw [if_pos hc3] at h
        refine Q.map (A.zT (gI_of zm33 (e := (28, 3, .ifCond .eq 34, [32])) rfl) (decide_eq_true hc3)) ?_
        refine Q.run zm33 1 (i' := 33) (ls' := [some (.ref b0), some (.ref b1), some (.int x2), some (.int x3)]) (st' := [.int x2]) rfl ?_
        obtain ⟨hc4, h⟩ := ite_so h
        cases h
        exact Q.ret (A.ri zm33 (show zM33.2.2.2.2.2[33]? = some (63, 1, .ireturn, []) from rfl) rfl (fit1 hc4)) hl
      · rw [if_neg hc3] at h
        refine Q.map (A.zF (gI_of zm33 (e := (28, 3, .ifCond .eq 34, [32])) rfl) (fun q => hc3 (of_decide_eq_true q))) ?_
        refine Q.run zm33 2 (i' := 19) (ls' := [some (.ref b0), some (.ref b1), some (.int x2), some (.int x3)]) (st' := [.int x3, .ref b0]) rfl ?_
        obtain ⟨r7, hc6, h⟩ := bu_so h
        have hq5 : Q 1 sio tt cc d 34 0 [some (.ref b0), some (.int x3)] [] s (.inl (some (.int r7)), s) := dt34 (by omega) hl hk_b0 hc6
        refine Q.callI (gC_vi zm33 (show zM33.2.2.2.2.2[19]? = some (33, 3, .invokevirtual 25, [0, 34, 1, 1]) from rfl) zm34 hk_b0.1 (hl.le hk_b0).1 rfl (show aCr 1 b0 [.int x3, .ref b0] 2 = some ([some (.ref b0), some (.int x3)], []) from rfl)) hq5 ?_
        obtain ⟨r10, hc9, h⟩ := bu_so h
        have hq8 : Q 1 sio tt cc d 35 0 [some (.int r7)] [] s (.inl (some (.int r10)), s) := dt35 (by omega) hl  hc9
        refine Q.callI (gC_st zm33 (show zM33.2.2.2.2.2[20]? = some (36, 3, .invokestatic 33, [0, 35, 1]) from rfl) zm35 (show aC 1 [.int r7] 1 = some ([some (.int r7)], []) from rfl)) hq8 ?_
        refine Q.run zm33 2 (i' := 23) (ls' := [some (.ref b0), some (.ref b1), some (.int x2), some (.int x3)]) (st' := [.int x3, .ref b1, .int r10]) rfl ?_
        obtain ⟨r13, hc12, h⟩ := bu_so h
        have hq11 : Q 1 sio tt cc d 34 0 [some (.ref b1), some (.int x3)] [] s (.inl (some (.int r13)), s) := dt34 (by omega) hl hk_b1 hc12
        refine Q.callI (gC_vi zm33 (show zM33.2.2.2.2.2[23]? = some (41, 3, .invokevirtual 25, [0, 34, 1, 1]) from rfl) zm34 hk_b1.1 (hl.le hk_b1).1 rfl (show aCr 1 b1 [.int x3, .ref b1, .int r10] 2 = some ([some (.ref b1), some (.int x3)], [.int r10]) from rfl)) hq11 ?_
        obtain ⟨r16, hc15, h⟩ := bu_so h
        have hq14 : Q 1 sio tt cc d 35 0 [some (.int r13)] [] s (.inl (some (.int r16)), s) := dt35 (by omega) hl  hc15
        refine Q.callI (gC_st zm33 (show zM33.2.2.2.2.2[24]? = some (44, 3, .invokestatic 33, [0, 35, 1]) from rfl) zm35 (show aC 1 [.int r13, .int r10] 1 = some ([some (.int r13)], [.int r10]) from rfl)) hq14 ?_
        by_cases hc17 : r10 = r16
        · rw [if_pos hc17] at h
          refine Q.map (A.bF (gI_of zm33 (e := (47, 3, .if_icmp .ne 7, [28])) rfl) (fun q => of_decide_eq_true q hc17)) ?_
          refine Q.run zm33 2 (i' := 29) (ls' := [some (.ref b0), some (.ref b1), some (.int x2), some (.int x3)]) (st' := [.int 1]) rfl ?_
          exact dt33_29 hd ih hl hk_b0 hk_b1 h
        · rw [if_neg hc17] at h
          refine Q.map (A.bT (gI_of zm33 (e := (47, 3, .if_icmp .ne 7, [28])) rfl) (decide_eq_true hc17)) ?_
          refine Q.run zm33 1 (i' := 29) (ls' := [some (.ref b0), some (.ref b1), some (.int x2), some (.int x3)]) (st' := [.int 0]) rfl ?_
          exact dt33_29 hd ih hl hk_b0 hk_b1 h
def dm33_8 (b0 : Nat) (b1 : Nat) (y0 : Int32) (s : aS) : Option (Int32) :=
  dm33_11 5000 b0 b1 y0 0 s
set_option maxRecDepth 100000 in
theorem dt33_8 {sio : Bool} {tt : Nat} {cc : Nat → Nat → Int32} {d : Nat} (hd : 1 ≤ d) {b0 : Nat} {b1 : Nat} {y0 : Int32} {s : aS} (hl : Ly tt cc s) (hk_b0 : aK s b0 1) (hk_b1 : aK s b1 1) {o : Int32} (h : dm33_8  b0 b1 y0 s = some o) : Q 1 sio tt cc d 33 8 [some (.ref b0), some (.ref b1), none, none] [.int y0] s (.inl (some (.int o)), s) := by
  unfold dm33_8 at h
  obtain ⟨d, rfl⟩ : ∃ e, d = e + 1 := ⟨d - 1, by omega⟩
  refine Q.run zm33 3 (i' := 11) (ls' := [some (.ref b0), some (.ref b1), some (.int y0), some (.int 0)]) (st' := []) rfl ?_
  exact dt33_11 hd _ hl hk_b0 hk_b1 h
def dm33 (b0 : Nat) (b1 : Nat) (s : aS) : Option (Int32) :=
  bu (dm28 b1 s) fun r3 =>
  if (sI s b0 1) = r3 then
    dm33_8 b0 b1 1 s
  else
    dm33_8 b0 b1 0 s
set_option maxRecDepth 100000 in
theorem dt33 {sio : Bool} {tt : Nat} {cc : Nat → Nat → Int32} {d : Nat} (hd : 1 ≤ d) {b0 : Nat} {b1 : Nat} {s : aS} (hl : Ly tt cc s) (hk_b0 : aK s b0 1) (hk_b1 : aK s b1 1) {o : Int32} (h : dm33  b0 b1 s = some o) : Q 1 sio tt cc d 33 0 [some (.ref b0), some (.ref b1), none, none] [] s (.inl (some (.int o)), s) := by
  unfold dm33 at h
  obtain ⟨d, rfl⟩ : ∃ e, d = e + 1 := ⟨d - 1, by omega⟩
  refine Q.run zm33 1 (i' := 1) (ls' := [some (.ref b0), some (.ref b1), none, none]) (st' := [.ref b0]) rfl ?_
  refine Q.map (A.gf (gI_of zm33 (e := (1, 3, .getfield 15, [1, 1])) rfl) hk_b0.1 (hl.le hk_b0).1 (by decide) rfl) ?_
  refine Q.run zm33 1 (i' := 3) (ls' := [some (.ref b0), some (.ref b1), none, none]) (st' := [.ref b1, .int (sI s b0 1)]) rfl ?_
  obtain ⟨r3, hc2, h⟩ := bu_so h
  have hq1 : Q 1 sio tt cc d 28 0 [some (.ref b1)] [] s (.inl (some (.int r3)), s) := dt28 (by omega) hl hk_b1 hc2
  refine Q.callI (gC_vi zm33 (show zM33.2.2.2.2.2[3]? = some (5, 3, .invokevirtual 22, [0, 28, 0, 1]) from rfl) zm28 hk_b1.1 (hl.le hk_b1).1 rfl (show aCr 0 b1 [.ref b1, .int (sI s b0 1)] 1 = some ([some (.ref b1)], [.int (sI s b0 1)]) from rfl)) hq1 ?_
  by_cases hc4 : (sI s b0 1) = r3
  · rw [if_pos hc4] at h
    refine Q.map (A.bF (gI_of zm33 (e := (8, 3, .if_icmp .ne 7, [7])) rfl) (fun q => of_decide_eq_true q hc4)) ?_
    refine Q.run zm33 2 (i' := 8) (ls' := [some (.ref b0), some (.ref b1), none, none]) (st' := [.int 1]) rfl ?_
    exact dt33_8 hd hl hk_b0 hk_b1 h
  · rw [if_neg hc4] at h
    refine Q.map (A.bT (gI_of zm33 (e := (8, 3, .if_icmp .ne 7, [7])) rfl) (decide_eq_true hc4)) ?_
    refine Q.run zm33 1 (i' := 8) (ls' := [some (.ref b0), some (.ref b1), none, none]) (st' := [.int 0]) rfl ?_
    exact dt33_8 hd hl hk_b0 hk_b1 h
/-! 32 FormulaTrees$Sheets.withName(LFormulaTrees$Letters;)I -/
set_option maxRecDepth 100000 in
theorem zm32 : zP[32]? = some zM32 := rfl
def dm32_2 : Nat → Nat → Int32 → aS → Option (Int32)
  | 0, _, _, _ => none
  | n + 1, b1, x2, s =>
    if (sI s 81 2) ≤ x2 then
      some (-1)
    else
      if aB x2 8 then
        bu (dm33 (84 + 2 * jN x2) b1 s) fun r7 =>
        if r7 = 0 then
          dm32_2 n b1 (x2 + 1) s
        else
          some x2
      else none
set_option maxRecDepth 100000 in
theorem dt32_2 {sio : Bool} {tt : Nat} {cc : Nat → Nat → Int32} {d : Nat} (hd : 2 ≤ d) : ∀ (n : Nat) {b1 : Nat} {x2 : Int32} {s : aS} (_ : Ly tt cc s) (_ : aK s b1 1) {o : Int32} (_ : dm32_2  n b1 x2 s = some o), Q 1 sio tt cc d 32 2 [some (.ref 81), some (.ref b1), some (.int x2)] [] s (.inl (some (.int o)), s) := by
  obtain ⟨d, rfl⟩ : ∃ e, d = e + 1 := ⟨d - 1, by omega⟩
  intro n
  induction n with
  | zero => intro b1 x2 s hl hk_b1 o h; rw [dm32_2] at h; cases h
  | succ n ih =>
    intro b1 x2 s hl hk_b1 o h
    rw [dm32_2] at h
    refine Q.run zm32 2 (i' := 4) (ls' := [some (.ref 81), some (.ref b1), some (.int x2)]) (st' := [.ref 81, .int x2]) rfl ?_
    refine Q.map (A.gf (gI_of zm32 (e := (4, 3, .getfield 24, [2, 2])) rfl) (hl.lt (a := 81) (by decide)) (hl.T (a := 81) (p := (2, 3)) 3 rfl rfl) (by decide) rfl) ?_
    by_cases hc1 : (sI s 81 2) ≤ x2
    · rw [if_pos hc1] at h
      refine Q.map (A.bT (gI_of zm32 (e := (7, 3, .if_icmp .ge 24, [17])) rfl) (decide_eq_true hc1)) ?_
      refine Q.run zm32 1 (i' := 18) (ls' := [some (.ref 81), some (.ref b1), some (.int x2)]) (st' := [.int (-1)]) rfl ?_
      cases h
      exact Q.ret (A.ri zm32 (show zM32.2.2.2.2.2[18]? = some (32, 1, .ireturn, []) from rfl) rfl rfl) hl
    · rw [if_neg hc1] at h
      refine Q.map (A.bF (gI_of zm32 (e := (7, 3, .if_icmp .ge 24, [17])) rfl) (fun q => hc1 (of_decide_eq_true q))) ?_
      refine Q.run zm32 1 (i' := 7) (ls' := [some (.ref 81), some (.ref b1), some (.int x2)]) (st' := [.ref 81]) rfl ?_
      refine Q.map (A.gf (gI_of zm32 (e := (11, 3, .getfield 11, [2, 0])) rfl) (hl.lt (a := 81) (by decide)) (hl.T (a := 81) (p := (2, 3)) 3 rfl rfl) (by decide) (hl.R 6 rfl)) ?_
      refine Q.run zm32 1 (i' := 9) (ls' := [some (.ref 81), some (.ref b1), some (.int x2)]) (st' := [.int x2, .ref 82]) rfl ?_
      obtain ⟨hc2, h⟩ := ite_so h
      have hn3 := lay_names hl hc2.2
      refine Q.map (A.aa (gI_of zm32 (e := (15, 1, .aaload, [])) rfl) (hl.lt (a := 82) (by decide)) (hl.T (a := 82) (p := (111, 8)) 4 rfl rfl) (by decide) hc2 hn3.2) ?_
      have hr4 := hn3.1
      refine Q.run zm32 1 (i' := 11) (ls' := [some (.ref 81), some (.ref b1), some (.int x2)]) (st' := [.ref b1, .ref (84 + 2 * jN x2)]) rfl ?_
      obtain ⟨r7, hc6, h⟩ := bu_so h
      have hq5 : Q 1 sio tt cc d 33 0 [some (.ref (84 + 2 * jN x2)), some (.ref b1), none, none] [] s (.inl (some (.int r7)), s) := dt33 (by omega) hl hr4 hk_b1 hc6
      refine Q.callI (gC_vi zm32 (show zM32.2.2.2.2.2[11]? = some (17, 3, .invokevirtual 36, [0, 33, 1, 1]) from rfl) zm33 hr4.1 (hl.le hr4).1 rfl (show aCr 1 (84 + 2 * jN x2) [.ref b1, .ref (84 + 2 * jN x2)] 4 = some ([some (.ref (84 + 2 * jN x2)), some (.ref b1), none, none], []) from rfl)) hq5 ?_
      by_cases hc8 : r7 = 0
      · rw [if_pos hc8] at h
        refine Q.map (A.zT (gI_of zm32 (e := (20, 3, .ifCond .eq 5, [15])) rfl) (decide_eq_true hc8)) ?_
        refine Q.run zm32 2 (i' := 2) (ls' := [some (.ref 81), some (.ref b1), some (.int (x2 + 1))]) (st' := []) rfl ?_
        exact ih hl hk_b1 h
      · rw [if_neg hc8] at h
        refine Q.map (A.zF (gI_of zm32 (e := (20, 3, .ifCond .eq 5, [15])) rfl) (fun q => hc8 (of_decide_eq_true q))) ?_
        refine Q.run zm32 1 (i' := 14) (ls' := [some (.ref 81), some (.ref b1), some (.int x2)]) (st' := [.int x2]) rfl ?_
        cases h
        exact Q.ret (A.ri zm32 (show zM32.2.2.2.2.2[14]? = some (24, 1, .ireturn, []) from rfl) rfl rfl) hl
def dm32 (b1 : Nat) (s : aS) : Option (Int32) :=
  dm32_2 5000 b1 0 s
set_option maxRecDepth 100000 in
theorem dt32 {sio : Bool} {tt : Nat} {cc : Nat → Nat → Int32} {d : Nat} (hd : 2 ≤ d) {b1 : Nat} {s : aS} (hl : Ly tt cc s) (hk_b1 : aK s b1 1) {o : Int32} (h : dm32  b1 s = some o) : Q 1 sio tt cc d 32 0 [some (.ref 81), some (.ref b1), none] [] s (.inl (some (.int o)), s) := by
  unfold dm32 at h
  obtain ⟨d, rfl⟩ : ∃ e, d = e + 1 := ⟨d - 1, by omega⟩
  refine Q.run zm32 2 (i' := 2) (ls' := [some (.ref 81), some (.ref b1), some (.int 0)]) (st' := []) rfl ?_
  exact dt32_2 hd _ hl hk_b1 h
/-! 253 java/lang/String.isLatin1()Z -/
set_option maxRecDepth 100000 in
theorem zm253 : zP[253]? = some zM253 := rfl
def dm253 (b0 : Nat) (s : aS) : Option (Int32) :=
  if (sI s b0 1) = 0 then
    some 1
  else
    some 0
set_option maxRecDepth 100000 in
theorem dt253 {f : Nat} {sio : Bool} {tt : Nat} {cc : Nat → Nat → Int32} {d : Nat} (hd : 0 ≤ d) {b0 : Nat} {s : aS} (hl : Ly tt cc s) (hk_b0 : aK s b0 70) {o : Int32} (h : dm253  b0 s = some o) : Q f sio tt cc d 253 0 [some (.ref b0)] [] s (.inl (some (.int o)), s) := by
  unfold dm253 at h
  refine Q.run zm253 1 (i' := 1) (ls' := [some (.ref b0)]) (st' := [.int 1]) rfl ?_
  refine Q.map (A.zF (gI_of zm253 (e := (3, 3, .ifCond .eq 14, [7])) rfl) (by decide)) ?_
  refine Q.run zm253 1 (i' := 3) (ls' := [some (.ref b0)]) (st' := [.ref b0]) rfl ?_
  refine Q.map (A.gf (gI_of zm253 (e := (7, 3, .getfield 15, [70, 1])) rfl) hk_b0.1 (hl.tx hk_b0).1 (by decide) rfl) ?_
  by_cases hc1 : (sI s b0 1) = 0
  · rw [if_pos hc1] at h
    refine Q.map (A.zF (gI_of zm253 (e := (10, 3, .ifCond .ne 7, [7])) rfl) (fun q => of_decide_eq_true q hc1)) ?_
    refine Q.run zm253 2 (i' := 8) (ls' := [some (.ref b0)]) (st' := [.int 1]) rfl ?_
    cases h
    exact Q.ret (A.ri zm253 (show zM253.2.2.2.2.2[8]? = some (18, 1, .ireturn, []) from rfl) rfl rfl) hl
  · rw [if_neg hc1] at h
    refine Q.map (A.zT (gI_of zm253 (e := (10, 3, .ifCond .ne 7, [7])) rfl) (decide_eq_true hc1)) ?_
    refine Q.run zm253 1 (i' := 8) (ls' := [some (.ref b0)]) (st' := [.int 0]) rfl ?_
    cases h
    exact Q.ret (A.ri zm253 (show zM253.2.2.2.2.2[8]? = some (18, 1, .ireturn, []) from rfl) rfl rfl) hl
/-! 255 java/lang/String.coder()B -/
set_option maxRecDepth 100000 in
theorem zm255 : zP[255]? = some zM255 := rfl
def dm255 (b0 : Nat) (s : aS) : Option (Int32) :=
  if -128 ≤ (sI s b0 1) ∧ (sI s b0 1) ≤ 127 then
    some (sI s b0 1)
  else none
set_option maxRecDepth 100000 in
theorem dt255 {f : Nat} {sio : Bool} {tt : Nat} {cc : Nat → Nat → Int32} {d : Nat} (hd : 0 ≤ d) {b0 : Nat} {s : aS} (hl : Ly tt cc s) (hk_b0 : aK s b0 70) {o : Int32} (h : dm255  b0 s = some o) : Q f sio tt cc d 255 0 [some (.ref b0)] [] s (.inl (some (.int o)), s) := by
  unfold dm255 at h
  refine Q.run zm255 1 (i' := 1) (ls' := [some (.ref b0)]) (st' := [.int 1]) rfl ?_
  refine Q.map (A.zF (gI_of zm255 (e := (3, 3, .ifCond .eq 10, [5])) rfl) (by decide)) ?_
  refine Q.run zm255 1 (i' := 3) (ls' := [some (.ref b0)]) (st' := [.ref b0]) rfl ?_
  refine Q.map (A.gf (gI_of zm255 (e := (7, 3, .getfield 15, [70, 1])) rfl) hk_b0.1 (hl.tx hk_b0).1 (by decide) rfl) ?_
  refine Q.run zm255 1 (i' := 6) (ls' := [some (.ref b0)]) (st' := [.int (sI s b0 1)]) rfl ?_
  obtain ⟨hc1, h⟩ := ite_so h
  cases h
  exact Q.ret (A.ri zm255 (show zM255.2.2.2.2.2[6]? = some (14, 1, .ireturn, []) from rfl) rfl (fit5 hc1)) hl
/-! 254 java/lang/String.length()I -/
set_option maxRecDepth 100000 in
theorem zm254 : zP[254]? = some zM254 := rfl
def dm254 (b0 : Nat) (s : aS) : Option (Int32) :=
  bu (dm255 b0 s) fun r3 =>
  some ((Int32.ofNat (sT s (b0 + 1)).2) >>> (r3 &&& 31))
set_option maxRecDepth 100000 in
theorem dt254 {f : Nat} {sio : Bool} {tt : Nat} {cc : Nat → Nat → Int32} {d : Nat} (hd : 1 ≤ d) {b0 : Nat} {s : aS} (hl : Ly tt cc s) (hk_b0 : aK s b0 70) {o : Int32} (h : dm254  b0 s = some o) : Q f sio tt cc d 254 0 [some (.ref b0)] [] s (.inl (some (.int o)), s) := by
  unfold dm254 at h
  obtain ⟨d, rfl⟩ : ∃ e, d = e + 1 := ⟨d - 1, by omega⟩
  refine Q.run zm254 1 (i' := 1) (ls' := [some (.ref b0)]) (st' := [.ref b0]) rfl ?_
  refine Q.map (A.gf (gI_of zm254 (e := (1, 3, .getfield 9, [70, 0])) rfl) hk_b0.1 (hl.tx hk_b0).1 (by decide) (hl.tx hk_b0).2.1) ?_
  refine Q.map (A.al (gI_of zm254 (e := (4, 1, .arraylength, [])) rfl) (hl.tx hk_b0).2.2.1 (pr2 (hl.tx hk_b0).2.2.2.1) (by decide)) ?_
  refine Q.run zm254 1 (i' := 4) (ls' := [some (.ref b0)]) (st' := [.ref b0, .int (Int32.ofNat (sT s (b0 + 1)).2)]) rfl ?_
  obtain ⟨r3, hc2, h⟩ := bu_so h
  have hq1 : Q f sio tt cc d 255 0 [some (.ref b0)] [] s (.inl (some (.int r3)), s) := dt255 (by omega) hl hk_b0 hc2
  refine Q.callI (gC_vi zm254 (show zM254.2.2.2.2.2[4]? = some (6, 3, .invokevirtual 335, [0, 255, 0, 70]) from rfl) zm255 hk_b0.1 (hl.tx hk_b0).1 rfl (show aCr 0 b0 [.ref b0, .int (Int32.ofNat (sT s (b0 + 1)).2)] 1 = some ([some (.ref b0)], [.int (Int32.ofNat (sT s (b0 + 1)).2)]) from rfl)) hq1 ?_
  refine Q.run zm254 1 (i' := 6) (ls' := [some (.ref b0)]) (st' := [.int ((Int32.ofNat (sT s (b0 + 1)).2) >>> (r3 &&& 31))]) rfl ?_
  cases h
  exact Q.ret (A.ri zm254 (show zM254.2.2.2.2.2[6]? = some (10, 1, .ireturn, []) from rfl) rfl rfl) hl
/-! 257 java/lang/StringLatin1.canEncode(I)Z -/
set_option maxRecDepth 100000 in
theorem zm257 : zP[257]? = some zM257 := rfl
def dm257 (x0 : Int32) : Option (Int32) :=
  if x0 < 0 then
    some 0
  else
    if 255 < x0 then
      some 0
    else
      some 1
set_option maxRecDepth 100000 in
theorem dt257 {f : Nat} {sio : Bool} {tt : Nat} {cc : Nat → Nat → Int32} {d : Nat} (hd : 0 ≤ d) {x0 : Int32} {s : aS} (hl : Ly tt cc s) {o : Int32} (h : dm257  x0 = some o) : Q f sio tt cc d 257 0 [some (.int x0)] [] s (.inl (some (.int o)), s) := by
  unfold dm257 at h
  refine Q.run zm257 1 (i' := 1) (ls' := [some (.int x0)]) (st' := [.int x0]) rfl ?_
  by_cases hc1 : x0 < 0
  · rw [if_pos hc1] at h
    refine Q.map (A.zT (gI_of zm257 (e := (1, 3, .ifCond .lt 14, [7])) rfl) (decide_eq_true hc1)) ?_
    refine Q.run zm257 1 (i' := 8) (ls' := [some (.int x0)]) (st' := [.int 0]) rfl ?_
    cases h
    exact Q.ret (A.ri zm257 (show zM257.2.2.2.2.2[8]? = some (16, 1, .ireturn, []) from rfl) rfl rfl) hl
  · rw [if_neg hc1] at h
    refine Q.map (A.zF (gI_of zm257 (e := (1, 3, .ifCond .lt 14, [7])) rfl) (fun q => hc1 (of_decide_eq_true q))) ?_
    refine Q.run zm257 2 (i' := 4) (ls' := [some (.int x0)]) (st' := [.int 255, .int x0]) rfl ?_
    by_cases hc2 : 255 < x0
    · rw [if_pos hc2] at h
      refine Q.map (A.bT (gI_of zm257 (e := (8, 3, .if_icmp .gt 7, [7])) rfl) (decide_eq_true hc2)) ?_
      refine Q.run zm257 1 (i' := 8) (ls' := [some (.int x0)]) (st' := [.int 0]) rfl ?_
      cases h
      exact Q.ret (A.ri zm257 (show zM257.2.2.2.2.2[8]? = some (16, 1, .ireturn, []) from rfl) rfl rfl) hl
    · rw [if_neg hc2] at h
      refine Q.map (A.bF (gI_of zm257 (e := (8, 3, .if_icmp .gt 7, [7])) rfl) (fun q => hc2 (of_decide_eq_true q))) ?_
      refine Q.run zm257 2 (i' := 8) (ls' := [some (.int x0)]) (st' := [.int 1]) rfl ?_
      cases h
      exact Q.ret (A.ri zm257 (show zM257.2.2.2.2.2[8]? = some (16, 1, .ireturn, []) from rfl) rfl rfl) hl
/-! 258 java/lang/StringLatin1.indexOfChar([BIII)I -/
set_option maxRecDepth 100000 in
theorem zm258 : zP[258]? = some zM258 := rfl
def dm258_5 : Nat → Nat → Int32 → Int32 → Int32 → aS → Option (Int32)
  | 0, _, _, _, _, _ => none
  | n + 1, b0, x3, x4, x5, s =>
    if x3 ≤ x5 then
      some (-1)
    else
      if aB x5 (sT s b0).2 then
        if (sI s b0 (jN x5)) = x4 then
          some x5
        else
          dm258_5 n b0 x3 x4 (x5 + 1) s
      else none
set_option maxRecDepth 100000 in
theorem dt258_5 {f : Nat} {sio : Bool} {tt : Nat} {cc : Nat → Nat → Int32} {d : Nat} (hd : 0 ≤ d) : ∀ (n : Nat) {b0 : Nat} {x3 : Int32} {x4 : Int32} {x5 : Int32} {x1 : Int32} {x2 : Int32} {s : aS} (_ : Ly tt cc s) (_ : aK s b0 101) {o : Int32} (_ : dm258_5  n b0 x3 x4 x5 s = some o), Q f sio tt cc d 258 5 [some (.ref b0), some (.int x1), some (.int x2), some (.int x3), some (.int x4), some (.int x5)] [] s (.inl (some (.int o)), s) := by
  intro n
  induction n with
  | zero => intro b0 x3 x4 x5 x1 x2 s hl hk_b0 o h; rw [dm258_5] at h; cases h
  | succ n ih =>
    intro b0 x3 x4 x5 x1 x2 s hl hk_b0 o h
    rw [dm258_5] at h
    refine Q.run zm258 2 (i' := 7) (ls' := [some (.ref b0), some (.int x1), some (.int x2), some (.int x3), some (.int x4), some (.int x5)]) (st' := [.int x3, .int x5]) rfl ?_
    by_cases hc1 : x3 ≤ x5
    · rw [if_pos hc1] at h
      refine Q.map (A.bT (gI_of zm258 (e := (10, 3, .if_icmp .ge 21, [17])) rfl) (decide_eq_true hc1)) ?_
      refine Q.run zm258 1 (i' := 18) (ls' := [some (.ref b0), some (.int x1), some (.int x2), some (.int x3), some (.int x4), some (.int x5)]) (st' := [.int (-1)]) rfl ?_
      cases h
      exact Q.ret (A.ri zm258 (show zM258.2.2.2.2.2[18]? = some (32, 1, .ireturn, []) from rfl) rfl rfl) hl
    · rw [if_neg hc1] at h
      refine Q.map (A.bF (gI_of zm258 (e := (10, 3, .if_icmp .ge 21, [17])) rfl) (fun q => hc1 (of_decide_eq_true q))) ?_
      refine Q.run zm258 2 (i' := 10) (ls' := [some (.ref b0), some (.int x1), some (.int x2), some (.int x3), some (.int x4), some (.int x5)]) (st' := [.int x5, .ref b0]) rfl ?_
      obtain ⟨hc2, h⟩ := ite_so h
      refine Q.map (A.ba (gI_of zm258 (e := (16, 1, .baload, [])) rfl) hk_b0.1 (pr2 hk_b0.2) (by decide) hc2) ?_
      refine Q.run zm258 1 (i' := 12) (ls' := [some (.ref b0), some (.int x1), some (.int x2), some (.int x3), some (.int x4), some (.int x5)]) (st' := [.int x4, .int (sI s b0 (jN x5))]) rfl ?_
      by_cases hc3 : (sI s b0 (jN x5)) = x4
      · rw [if_pos hc3] at h
        refine Q.map (A.bF (gI_of zm258 (e := (19, 3, .if_icmp .ne 6, [15])) rfl) (fun q => of_decide_eq_true q hc3)) ?_
        refine Q.run zm258 1 (i' := 14) (ls' := [some (.ref b0), some (.int x1), some (.int x2), some (.int x3), some (.int x4), some (.int x5)]) (st' := [.int x5]) rfl ?_
        cases h
        exact Q.ret (A.ri zm258 (show zM258.2.2.2.2.2[14]? = some (24, 1, .ireturn, []) from rfl) rfl rfl) hl
      · rw [if_neg hc3] at h
        refine Q.map (A.bT (gI_of zm258 (e := (19, 3, .if_icmp .ne 6, [15])) rfl) (decide_eq_true hc3)) ?_
        refine Q.run zm258 2 (i' := 5) (ls' := [some (.ref b0), some (.int x1), some (.int x2), some (.int x3), some (.int x4), some (.int (x5 + 1))]) (st' := []) rfl ?_
        exact ih hl hk_b0 h
def dm258 (b0 : Nat) (x1 : Int32) (x2 : Int32) (x3 : Int32) (s : aS) : Option (Int32) :=
  dm258_5 5000 b0 x3 x1.toInt8.toInt32 x2 s
set_option maxRecDepth 100000 in
theorem dt258 {f : Nat} {sio : Bool} {tt : Nat} {cc : Nat → Nat → Int32} {d : Nat} (hd : 0 ≤ d) {b0 : Nat} {x1 : Int32} {x2 : Int32} {x3 : Int32} {s : aS} (hl : Ly tt cc s) (hk_b0 : aK s b0 101) {o : Int32} (h : dm258  b0 x1 x2 x3 s = some o) : Q f sio tt cc d 258 0 [some (.ref b0), some (.int x1), some (.int x2), some (.int x3), none, none] [] s (.inl (some (.int o)), s) := by
  unfold dm258 at h
  refine Q.run zm258 5 (i' := 5) (ls' := [some (.ref b0), some (.int x1), some (.int x2), some (.int x3), some (.int x1.toInt8.toInt32), some (.int x2)]) (st' := []) rfl ?_
  exact dt258_5 hd _ hl hk_b0 h
/-! 256 java/lang/StringLatin1.indexOf([BIII)I -/
set_option maxRecDepth 100000 in
theorem zm256 : zP[256]? = some zM256 := rfl
def dm256 (b0 : Nat) (x1 : Int32) (x2 : Int32) (x3 : Int32) (s : aS) : Option (Int32) :=
  bu (dm257 x1) fun r3 =>
  if r3 = 0 then
    some (-1)
  else
    if (if x2 < 0 then 0 else x2) < (if (Int32.ofNat (sT s b0).2) < x3 then (Int32.ofNat (sT s b0).2) else x3) then
      bu (dm258 b0 x1 (if x2 < 0 then 0 else x2) (if (Int32.ofNat (sT s b0).2) < x3 then (Int32.ofNat (sT s b0).2) else x3) s) fun r8 =>
      some r8
    else
      some (-1)
set_option maxRecDepth 100000 in
theorem dt256 {f : Nat} {sio : Bool} {tt : Nat} {cc : Nat → Nat → Int32} {d : Nat} (hd : 1 ≤ d) {b0 : Nat} {x1 : Int32} {x2 : Int32} {x3 : Int32} {s : aS} (hl : Ly tt cc s) (hk_b0 : aK s b0 101) {o : Int32} (h : dm256  b0 x1 x2 x3 s = some o) : Q f sio tt cc d 256 0 [some (.ref b0), some (.int x1), some (.int x2), some (.int x3)] [] s (.inl (some (.int o)), s) := by
  unfold dm256 at h
  obtain ⟨d, rfl⟩ : ∃ e, d = e + 1 := ⟨d - 1, by omega⟩
  refine Q.run zm256 1 (i' := 1) (ls' := [some (.ref b0), some (.int x1), some (.int x2), some (.int x3)]) (st' := [.int x1]) rfl ?_
  obtain ⟨r3, hc2, h⟩ := bu_so h
  have hq1 : Q f sio tt cc d 257 0 [some (.int x1)] [] s (.inl (some (.int r3)), s) := dt257 (by omega) hl  hc2
  refine Q.callI (gC_st zm256 (show zM256.2.2.2.2.2[1]? = some (1, 3, .invokestatic 88, [0, 257, 1]) from rfl) zm257 (show aC 1 [.int x1] 1 = some ([some (.int x1)], []) from rfl)) hq1 ?_
  by_cases hc4 : r3 = 0
  · rw [if_pos hc4] at h
    refine Q.map (A.zF (gI_of zm256 (e := (4, 3, .ifCond .ne 5, [5])) rfl) (fun q => of_decide_eq_true q hc4)) ?_
    refine Q.run zm256 1 (i' := 4) (ls' := [some (.ref b0), some (.int x1), some (.int x2), some (.int x3)]) (st' := [.int (-1)]) rfl ?_
    cases h
    exact Q.ret (A.ri zm256 (show zM256.2.2.2.2.2[4]? = some (8, 1, .ireturn, []) from rfl) rfl rfl) hl
  · rw [if_neg hc4] at h
    refine Q.map (A.zT (gI_of zm256 (e := (4, 3, .ifCond .ne 5, [5])) rfl) (decide_eq_true hc4)) ?_
    refine Q.run zm256 2 (i' := 7) (ls' := [some (.ref b0), some (.int x1), some (.int x2), some (.int x3)]) (st' := [.int 0, .int x2]) rfl ?_
    refine Q.map (A.mx zm256 (eq_true (show 0 ≤ 8 by decide)) (show zM256.2.2.2.2.2[7]? = some (11, 3, .invokestatic 92, [3]) from rfl)) ?_
    refine Q.run zm256 3 (i' := 11) (ls' := [some (.ref b0), some (.int x1), some (.int (if x2 < 0 then 0 else x2)), some (.int x3)]) (st' := [.ref b0, .int x3]) rfl ?_
    refine Q.map (A.al (gI_of zm256 (e := (17, 1, .arraylength, [])) rfl) hk_b0.1 (pr2 hk_b0.2) (by decide)) ?_
    refine Q.map (A.mn zm256 (eq_true (show 0 ≤ 8 by decide)) (show zM256.2.2.2.2.2[12]? = some (18, 3, .invokestatic 38, [4]) from rfl)) ?_
    refine Q.run zm256 3 (i' := 16) (ls' := [some (.ref b0), some (.int x1), some (.int (if x2 < 0 then 0 else x2)), some (.int (if (Int32.ofNat (sT s b0).2) < x3 then (Int32.ofNat (sT s b0).2) else x3))]) (st' := [.int (if (Int32.ofNat (sT s b0).2) < x3 then (Int32.ofNat (sT s b0).2) else x3), .int (if x2 < 0 then 0 else x2)]) rfl ?_
    by_cases hc5 : (if x2 < 0 then 0 else x2) < (if (Int32.ofNat (sT s b0).2) < x3 then (Int32.ofNat (sT s b0).2) else x3)
    · rw [if_pos hc5] at h
      refine Q.map (A.bT (gI_of zm256 (e := (24, 3, .if_icmp .lt 5, [19])) rfl) (decide_eq_true hc5)) ?_
      refine Q.run zm256 4 (i' := 23) (ls' := [some (.ref b0), some (.int x1), some (.int (if x2 < 0 then 0 else x2)), some (.int (if (Int32.ofNat (sT s b0).2) < x3 then (Int32.ofNat (sT s b0).2) else x3))]) (st' := [.int (if (Int32.ofNat (sT s b0).2) < x3 then (Int32.ofNat (sT s b0).2) else x3), .int (if x2 < 0 then 0 else x2), .int x1, .ref b0]) rfl ?_
      obtain ⟨r8, hc7, h⟩ := bu_so h
      have hq6 : Q f sio tt cc d 258 0 [some (.ref b0), some (.int x1), some (.int (if x2 < 0 then 0 else x2)), some (.int (if (Int32.ofNat (sT s b0).2) < x3 then (Int32.ofNat (sT s b0).2) else x3)), none, none] [] s (.inl (some (.int r8)), s) := dt258 (by omega) hl hk_b0 hc7
      refine Q.callI (gC_st zm256 (show zM256.2.2.2.2.2[23]? = some (33, 3, .invokestatic 95, [0, 258, 4]) from rfl) zm258 (show aC 4 [.int (if (Int32.ofNat (sT s b0).2) < x3 then (Int32.ofNat (sT s b0).2) else x3), .int (if x2 < 0 then 0 else x2), .int x1, .ref b0] 6 = some ([some (.ref b0), some (.int x1), some (.int (if x2 < 0 then 0 else x2)), some (.int (if (Int32.ofNat (sT s b0).2) < x3 then (Int32.ofNat (sT s b0).2) else x3)), none, none], []) from rfl)) hq6 ?_
      cases h
      exact Q.ret (A.ri zm256 (show zM256.2.2.2.2.2[24]? = some (36, 1, .ireturn, []) from rfl) rfl rfl) hl
    · rw [if_neg hc5] at h
      refine Q.map (A.bF (gI_of zm256 (e := (24, 3, .if_icmp .lt 5, [19])) rfl) (fun q => hc5 (of_decide_eq_true q))) ?_
      refine Q.run zm256 1 (i' := 18) (ls' := [some (.ref b0), some (.int x1), some (.int (if x2 < 0 then 0 else x2)), some (.int (if (Int32.ofNat (sT s b0).2) < x3 then (Int32.ofNat (sT s b0).2) else x3))]) (st' := [.int (-1)]) rfl ?_
      cases h
      exact Q.ret (A.ri zm256 (show zM256.2.2.2.2.2[18]? = some (28, 1, .ireturn, []) from rfl) rfl rfl) hl
end
section
/-! 252 java/lang/String.indexOf(II)I -/
set_option maxRecDepth 100000 in
theorem zm252 : zP[252]? = some zM252 := rfl
def dm252 (b0 : Nat) (x1 : Int32) (x2 : Int32) (s : aS) : Option (Int32) :=
  bu (dm253 b0 s) fun r3 =>
  if r3 = 0 then
    bu (dm254 b0 s) fun r7 =>
    none
  else
    bu (dm254 b0 s) fun r10 =>
    bu (dm256 (b0 + 1) x1 x2 r10 s) fun r13 =>
    some r13
set_option maxRecDepth 100000 in
theorem dt252 {f : Nat} {sio : Bool} {tt : Nat} {cc : Nat → Nat → Int32} {d : Nat} (hd : 2 ≤ d) {b0 : Nat} {x1 : Int32} {x2 : Int32} {s : aS} (hl : Ly tt cc s) (hk_b0 : aK s b0 70) {o : Int32} (h : dm252  b0 x1 x2 s = some o) : Q f sio tt cc d 252 0 [some (.ref b0), some (.int x1), some (.int x2)] [] s (.inl (some (.int o)), s) := by
  unfold dm252 at h
  obtain ⟨d, rfl⟩ : ∃ e, d = e + 1 := ⟨d - 1, by omega⟩
  refine Q.run zm252 1 (i' := 1) (ls' := [some (.ref b0), some (.int x1), some (.int x2)]) (st' := [.ref b0]) rfl ?_
  obtain ⟨r3, hc2, h⟩ := bu_so h
  have hq1 : Q f sio tt cc d 253 0 [some (.ref b0)] [] s (.inl (some (.int r3)), s) := dt253 (by omega) hl hk_b0 hc2
  refine Q.callI (gC_vi zm252 (show zM252.2.2.2.2.2[1]? = some (1, 3, .invokevirtual 492, [0, 253, 0, 70]) from rfl) zm253 hk_b0.1 (hl.tx hk_b0).1 rfl (show aCr 0 b0 [.ref b0] 1 = some ([some (.ref b0)], []) from rfl)) hq1 ?_
  by_cases hc4 : r3 = 0
  · rw [if_pos hc4] at h
    refine Q.map (A.zT (gI_of zm252 (e := (4, 3, .ifCond .eq 19, [11])) rfl) (decide_eq_true hc4)) ?_
    refine Q.run zm252 1 (i' := 12) (ls' := [some (.ref b0), some (.int x1), some (.int x2)]) (st' := [.ref b0]) rfl ?_
    refine Q.map (A.gf (gI_of zm252 (e := (24, 3, .getfield 9, [70, 0])) rfl) hk_b0.1 (hl.tx hk_b0).1 (by decide) (hl.tx hk_b0).2.1) ?_
    refine Q.run zm252 3 (i' := 16) (ls' := [some (.ref b0), some (.int x1), some (.int x2)]) (st' := [.ref b0, .int x2, .int x1, .ref (b0 + 1)]) rfl ?_
    obtain ⟨r7, hc6, h⟩ := bu_so h
    have hq5 : Q f sio tt cc d 254 0 [some (.ref b0)] [] s (.inl (some (.int r7)), s) := dt254 (by omega) hl hk_b0 hc6
    refine Q.callI (gC_vi zm252 (show zM252.2.2.2.2.2[16]? = some (30, 3, .invokevirtual 505, [0, 254, 0, 70]) from rfl) zm254 hk_b0.1 (hl.tx hk_b0).1 rfl (show aCr 0 b0 [.ref b0, .int x2, .int x1, .ref (b0 + 1)] 1 = some ([some (.ref b0)], [.int x2, .int x1, .ref (b0 + 1)]) from rfl)) hq5 ?_
    cases h
  · rw [if_neg hc4] at h
    refine Q.map (A.zF (gI_of zm252 (e := (4, 3, .ifCond .eq 19, [11])) rfl) (fun q => hc4 (of_decide_eq_true q))) ?_
    refine Q.run zm252 1 (i' := 4) (ls' := [some (.ref b0), some (.int x1), some (.int x2)]) (st' := [.ref b0]) rfl ?_
    refine Q.map (A.gf (gI_of zm252 (e := (8, 3, .getfield 9, [70, 0])) rfl) hk_b0.1 (hl.tx hk_b0).1 (by decide) (hl.tx hk_b0).2.1) ?_
    refine Q.run zm252 3 (i' := 8) (ls' := [some (.ref b0), some (.int x1), some (.int x2)]) (st' := [.ref b0, .int x2, .int x1, .ref (b0 + 1)]) rfl ?_
    obtain ⟨r10, hc9, h⟩ := bu_so h
    have hq8 : Q f sio tt cc d 254 0 [some (.ref b0)] [] s (.inl (some (.int r10)), s) := dt254 (by omega) hl hk_b0 hc9
    refine Q.callI (gC_vi zm252 (show zM252.2.2.2.2.2[8]? = some (14, 3, .invokevirtual 505, [0, 254, 0, 70]) from rfl) zm254 hk_b0.1 (hl.tx hk_b0).1 rfl (show aCr 0 b0 [.ref b0, .int x2, .int x1, .ref (b0 + 1)] 1 = some ([some (.ref b0)], [.int x2, .int x1, .ref (b0 + 1)]) from rfl)) hq8 ?_
    obtain ⟨r13, hc12, h⟩ := bu_so h
    have hq11 : Q f sio tt cc d 256 0 [some (.ref (b0 + 1)), some (.int x1), some (.int x2), some (.int r10)] [] s (.inl (some (.int r13)), s) := dt256 (by omega) hl ⟨(hl.tx hk_b0).2.2.1, by rw [(pr2 (hl.tx hk_b0).2.2.2.1)]⟩ hc12
    refine Q.callI (gC_st zm252 (show zM252.2.2.2.2.2[9]? = some (17, 3, .invokestatic 637, [0, 256, 4]) from rfl) zm256 (show aC 4 [.int r10, .int x2, .int x1, .ref (b0 + 1)] 4 = some ([some (.ref (b0 + 1)), some (.int x1), some (.int x2), some (.int r10)], []) from rfl)) hq11 ?_
    refine Q.run zm252 1 (i' := 18) (ls' := [some (.ref b0), some (.int x1), some (.int x2)]) (st' := [.int r13]) rfl ?_
    cases h
    exact Q.ret (A.ri zm252 (show zM252.2.2.2.2.2[18]? = some (36, 1, .ireturn, []) from rfl) rfl rfl) hl
/-! 251 java/lang/String.indexOf(I)I -/
set_option maxRecDepth 100000 in
theorem zm251 : zP[251]? = some zM251 := rfl
def dm251 (b0 : Nat) (x1 : Int32) (s : aS) : Option (Int32) :=
  bu (dm252 b0 x1 0 s) fun r3 =>
  some r3
set_option maxRecDepth 100000 in
theorem dt251 {f : Nat} {sio : Bool} {tt : Nat} {cc : Nat → Nat → Int32} {d : Nat} (hd : 3 ≤ d) {b0 : Nat} {x1 : Int32} {s : aS} (hl : Ly tt cc s) (hk_b0 : aK s b0 70) {o : Int32} (h : dm251  b0 x1 s = some o) : Q f sio tt cc d 251 0 [some (.ref b0), some (.int x1)] [] s (.inl (some (.int o)), s) := by
  unfold dm251 at h
  obtain ⟨d, rfl⟩ : ∃ e, d = e + 1 := ⟨d - 1, by omega⟩
  refine Q.run zm251 3 (i' := 3) (ls' := [some (.ref b0), some (.int x1)]) (st' := [.int 0, .int x1, .ref b0]) rfl ?_
  obtain ⟨r3, hc2, h⟩ := bu_so h
  have hq1 : Q f sio tt cc d 252 0 [some (.ref b0), some (.int x1), some (.int 0)] [] s (.inl (some (.int r3)), s) := dt252 (by omega) hl hk_b0 hc2
  refine Q.callI (gC_vi zm251 (show zM251.2.2.2.2.2[3]? = some (3, 3, .invokevirtual 633, [0, 252, 2, 70]) from rfl) zm252 hk_b0.1 (hl.tx hk_b0).1 rfl (show aCr 2 b0 [.int 0, .int x1, .ref b0] 3 = some ([some (.ref b0), some (.int x1), some (.int 0)], []) from rfl)) hq1 ?_
  cases h
  exact Q.ret (A.ri zm251 (show zM251.2.2.2.2.2[4]? = some (6, 1, .ireturn, []) from rfl) rfl rfl) hl
/-! 36 FormulaTrees$Sheets.isName(LFormulaTrees$Letters;)Z -/
set_option maxRecDepth 100000 in
theorem zm36 : zP[36]? = some zM36 := rfl
def dm36_33 (b0 : Nat) (x1 : Int32) (x2 : Int32) (s : aS) : Option (Int32) :=
  if x2 = 0 then
    some 0
  else
    bu (dm34 b0 0 s) fun r4 =>
    if r4 = 39 then
      some 0
    else
      bu (dm34 b0 (x1 - 1) s) fun r8 =>
      if r8 = 39 then
        some 0
      else
        some 1
set_option maxRecDepth 100000 in
theorem dt36_33 {sio : Bool} {tt : Nat} {cc : Nat → Nat → Int32} {d : Nat} (hd : 4 ≤ d) {b0 : Nat} {x1 : Int32} {x2 : Int32} {x3 : Int32} {s : aS} (hl : Ly tt cc s) (hk_b0 : aK s b0 1) {o : Int32} (h : dm36_33  b0 x1 x2 s = some o) : Q 1 sio tt cc d 36 33 [some (.ref b0), some (.int x1), some (.int x2), some (.int x3)] [] s (.inl (some (.int o)), s) := by
  unfold dm36_33 at h
  obtain ⟨d, rfl⟩ : ∃ e, d = e + 1 := ⟨d - 1, by omega⟩
  refine Q.run zm36 1 (i' := 34) (ls' := [some (.ref b0), some (.int x1), some (.int x2), some (.int x3)]) (st' := [.int x2]) rfl ?_
  by_cases hc1 : x2 = 0
  · rw [if_pos hc1] at h
    refine Q.map (A.zT (gI_of zm36 (e := (60, 3, .ifCond .eq 29, [49])) rfl) (decide_eq_true hc1)) ?_
    refine Q.run zm36 1 (i' := 50) (ls' := [some (.ref b0), some (.int x1), some (.int x2), some (.int x3)]) (st' := [.int 0]) rfl ?_
    cases h
    exact Q.ret (A.ri zm36 (show zM36.2.2.2.2.2[50]? = some (90, 1, .ireturn, []) from rfl) rfl rfl) hl
  · rw [if_neg hc1] at h
    refine Q.map (A.zF (gI_of zm36 (e := (60, 3, .ifCond .eq 29, [49])) rfl) (fun q => hc1 (of_decide_eq_true q))) ?_
    refine Q.run zm36 2 (i' := 37) (ls' := [some (.ref b0), some (.int x1), some (.int x2), some (.int x3)]) (st' := [.int 0, .ref b0]) rfl ?_
    obtain ⟨r4, hc3, h⟩ := bu_so h
    have hq2 : Q 1 sio tt cc d 34 0 [some (.ref b0), some (.int 0)] [] s (.inl (some (.int r4)), s) := dt34 (by omega) hl hk_b0 hc3
    refine Q.callI (gC_vi zm36 (show zM36.2.2.2.2.2[37]? = some (65, 3, .invokevirtual 32, [0, 34, 1, 1]) from rfl) zm34 hk_b0.1 (hl.le hk_b0).1 rfl (show aCr 1 b0 [.int 0, .ref b0] 2 = some ([some (.ref b0), some (.int 0)], []) from rfl)) hq2 ?_
    refine Q.run zm36 1 (i' := 39) (ls' := [some (.ref b0), some (.int x1), some (.int x2), some (.int x3)]) (st' := [.int 39, .int r4]) rfl ?_
    by_cases hc5 : r4 = 39
    · rw [if_pos hc5] at h
      refine Q.map (A.bT (gI_of zm36 (e := (70, 3, .if_icmp .eq 19, [49])) rfl) (decide_eq_true hc5)) ?_
      refine Q.run zm36 1 (i' := 50) (ls' := [some (.ref b0), some (.int x1), some (.int x2), some (.int x3)]) (st' := [.int 0]) rfl ?_
      cases h
      exact Q.ret (A.ri zm36 (show zM36.2.2.2.2.2[50]? = some (90, 1, .ireturn, []) from rfl) rfl rfl) hl
    · rw [if_neg hc5] at h
      refine Q.map (A.bF (gI_of zm36 (e := (70, 3, .if_icmp .eq 19, [49])) rfl) (fun q => hc5 (of_decide_eq_true q))) ?_
      refine Q.run zm36 4 (i' := 44) (ls' := [some (.ref b0), some (.int x1), some (.int x2), some (.int x3)]) (st' := [.int (x1 - 1), .ref b0]) rfl ?_
      obtain ⟨r8, hc7, h⟩ := bu_so h
      have hq6 : Q 1 sio tt cc d 34 0 [some (.ref b0), some (.int (x1 - 1))] [] s (.inl (some (.int r8)), s) := dt34 (by omega) hl hk_b0 hc7
      refine Q.callI (gC_vi zm36 (show zM36.2.2.2.2.2[44]? = some (77, 3, .invokevirtual 32, [0, 34, 1, 1]) from rfl) zm34 hk_b0.1 (hl.le hk_b0).1 rfl (show aCr 1 b0 [.int (x1 - 1), .ref b0] 2 = some ([some (.ref b0), some (.int (x1 - 1))], []) from rfl)) hq6 ?_
      refine Q.run zm36 1 (i' := 46) (ls' := [some (.ref b0), some (.int x1), some (.int x2), some (.int x3)]) (st' := [.int 39, .int r8]) rfl ?_
      by_cases hc9 : r8 = 39
      · rw [if_pos hc9] at h
        refine Q.map (A.bT (gI_of zm36 (e := (82, 3, .if_icmp .eq 7, [49])) rfl) (decide_eq_true hc9)) ?_
        refine Q.run zm36 1 (i' := 50) (ls' := [some (.ref b0), some (.int x1), some (.int x2), some (.int x3)]) (st' := [.int 0]) rfl ?_
        cases h
        exact Q.ret (A.ri zm36 (show zM36.2.2.2.2.2[50]? = some (90, 1, .ireturn, []) from rfl) rfl rfl) hl
      · rw [if_neg hc9] at h
        refine Q.map (A.bF (gI_of zm36 (e := (82, 3, .if_icmp .eq 7, [49])) rfl) (fun q => hc9 (of_decide_eq_true q))) ?_
        refine Q.run zm36 2 (i' := 50) (ls' := [some (.ref b0), some (.int x1), some (.int x2), some (.int x3)]) (st' := [.int 1]) rfl ?_
        cases h
        exact Q.ret (A.ri zm36 (show zM36.2.2.2.2.2[50]? = some (90, 1, .ireturn, []) from rfl) rfl rfl) hl
def dm36_30 (k15 : Nat → Int32 → Int32 → Int32 → aS → Option (Int32)) (b0 : Nat) (x1 : Int32) (x3 : Int32) (y0 : Int32) (s : aS) : Option (Int32) :=
  k15 b0 x1 y0 (x3 + 1) s
set_option maxRecDepth 100000 in
theorem dt36_30 {sio : Bool} {tt : Nat} {cc : Nat → Nat → Int32} {d : Nat} (hd : 4 ≤ d) {k15 : Nat → Int32 → Int32 → Int32 → aS → Option (Int32)} (hk15 : ∀ {b0 : Nat} {x1 : Int32} {x2 : Int32} {x3 : Int32} {s : aS}, Ly tt cc s → aK s b0 1 → ∀ {o : Int32}, k15 b0 x1 x2 x3 s = some o → Q 1 sio tt cc d 36 15 [some (.ref b0), some (.int x1), some (.int x2), some (.int x3)] [] s (.inl (some (.int o)), s)) {b0 : Nat} {x1 : Int32} {x3 : Int32} {y0 : Int32} {x2 : Int32} {s : aS} (hl : Ly tt cc s) (hk_b0 : aK s b0 1) {o : Int32} (h : dm36_30 k15 b0 x1 x3 y0 s = some o) : Q 1 sio tt cc d 36 30 [some (.ref b0), some (.int x1), some (.int x2), some (.int x3)] [.int y0] s (.inl (some (.int o)), s) := by
  unfold dm36_30 at h
  obtain ⟨d, rfl⟩ : ∃ e, d = e + 1 := ⟨d - 1, by omega⟩
  refine Q.run zm36 3 (i' := 15) (ls' := [some (.ref b0), some (.int x1), some (.int y0), some (.int (x3 + 1))]) (st' := []) rfl ?_
  exact hk15 hl hk_b0 h
def dm36_15 : Nat → Nat → Int32 → Int32 → Int32 → aS → Option (Int32)
  | 0, _, _, _, _, _ => none
  | n + 1, b0, x1, x2, x3, s =>
    if x1 ≤ x3 then
      dm36_33 b0 x1 x2 s
    else
      if x2 = 0 then
        dm36_33 b0 x1 x2 s
      else
        bu (dm34 b0 x3 s) fun r5 =>
        bu (dm251 5 ((r5.toUInt32 % 65536).toInt32) s) fun r8 =>
        if 0 ≤ r8 then
          dm36_30 (dm36_15 n) b0 x1 x3 0 s
        else
          dm36_30 (dm36_15 n) b0 x1 x3 1 s
set_option maxRecDepth 100000 in
theorem dt36_15 {sio : Bool} {tt : Nat} {cc : Nat → Nat → Int32} {d : Nat} (hd : 4 ≤ d) : ∀ (n : Nat) {b0 : Nat} {x1 : Int32} {x2 : Int32} {x3 : Int32} {s : aS} (_ : Ly tt cc s) (_ : aK s b0 1) {o : Int32} (_ : dm36_15  n b0 x1 x2 x3 s = some o), Q 1 sio tt cc d 36 15 [some (.ref b0), some (.int x1), some (.int x2), some (.int x3)] [] s (.inl (some (.int o)), s) := by
  obtain ⟨d, rfl⟩ : ∃ e, d = e + 1 := ⟨d - 1, by omega⟩
  intro n
  induction n with
  | zero => intro b0 x1 x2 x3 s hl hk_b0 o h; rw [dm36_15] at h; cases h
  | succ n ih =>
    intro b0 x1 x2 x3 s hl hk_b0 o h
    rw [dm36_15] at h
    refine Q.run zm36 2 (i' := 17) (ls' := [some (.ref b0), some (.int x1), some (.int x2), some (.int x3)]) (st' := [.int x1, .int x3]) rfl ?_
    by_cases hc1 : x1 ≤ x3
    · rw [if_pos hc1] at h
      refine Q.map (A.bT (gI_of zm36 (e := (26, 3, .if_icmp .ge 33, [33])) rfl) (decide_eq_true hc1)) ?_
      exact dt36_33 hd hl hk_b0 h
    · rw [if_neg hc1] at h
      refine Q.map (A.bF (gI_of zm36 (e := (26, 3, .if_icmp .ge 33, [33])) rfl) (fun q => hc1 (of_decide_eq_true q))) ?_
      refine Q.run zm36 1 (i' := 19) (ls' := [some (.ref b0), some (.int x1), some (.int x2), some (.int x3)]) (st' := [.int x2]) rfl ?_
      by_cases hc2 : x2 = 0
      · rw [if_pos hc2] at h
        refine Q.map (A.zT (gI_of zm36 (e := (30, 3, .ifCond .eq 29, [33])) rfl) (decide_eq_true hc2)) ?_
        exact dt36_33 hd hl hk_b0 h
      · rw [if_neg hc2] at h
        refine Q.map (A.zF (gI_of zm36 (e := (30, 3, .ifCond .eq 29, [33])) rfl) (fun q => hc2 (of_decide_eq_true q))) ?_
        refine Q.run zm36 3 (i' := 23) (ls' := [some (.ref b0), some (.int x1), some (.int x2), some (.int x3)]) (st' := [.int x3, .ref b0, .ref 5]) rfl ?_
        obtain ⟨r5, hc4, h⟩ := bu_so h
        have hq3 : Q 1 sio tt cc d 34 0 [some (.ref b0), some (.int x3)] [] s (.inl (some (.int r5)), s) := dt34 (by omega) hl hk_b0 hc4
        refine Q.callI (gC_vi zm36 (show zM36.2.2.2.2.2[23]? = some (37, 3, .invokevirtual 32, [0, 34, 1, 1]) from rfl) zm34 hk_b0.1 (hl.le hk_b0).1 rfl (show aCr 1 b0 [.int x3, .ref b0, .ref 5] 2 = some ([some (.ref b0), some (.int x3)], [.ref 5]) from rfl)) hq3 ?_
        refine Q.run zm36 1 (i' := 25) (ls' := [some (.ref b0), some (.int x1), some (.int x2), some (.int x3)]) (st' := [.int ((r5.toUInt32 % 65536).toInt32), .ref 5]) rfl ?_
        obtain ⟨r8, hc7, h⟩ := bu_so h
        have hq6 : Q 1 sio tt cc d 251 0 [some (.ref 5), some (.int ((r5.toUInt32 % 65536).toInt32))] [] s (.inl (some (.int r8)), s) := dt251 (by omega) hl (hl.lowK (a := 5) (c := 70) (by decide) (by decide)) hc7
        refine Q.callI (gC_vi zm36 (show zM36.2.2.2.2.2[25]? = some (41, 3, .invokevirtual 53, [0, 251, 1, 70]) from rfl) zm251 (hl.lt (a := 5) (by decide)) (hl.tx (hl.lowK (a := 5) (c := 70) (by decide) (by decide))).1 rfl (show aCr 1 5 [.int ((r5.toUInt32 % 65536).toInt32), .ref 5] 2 = some ([some (.ref 5), some (.int ((r5.toUInt32 % 65536).toInt32))], []) from rfl)) hq6 ?_
        by_cases hc9 : 0 ≤ r8
        · rw [if_pos hc9] at h
          refine Q.map (A.zT (gI_of zm36 (e := (44, 3, .ifCond .ge 7, [29])) rfl) (decide_eq_true hc9)) ?_
          refine Q.run zm36 1 (i' := 30) (ls' := [some (.ref b0), some (.int x1), some (.int x2), some (.int x3)]) (st' := [.int 0]) rfl ?_
          exact dt36_30 hd ih hl hk_b0 h
        · rw [if_neg hc9] at h
          refine Q.map (A.zF (gI_of zm36 (e := (44, 3, .ifCond .ge 7, [29])) rfl) (fun q => hc9 (of_decide_eq_true q))) ?_
          refine Q.run zm36 2 (i' := 30) (ls' := [some (.ref b0), some (.int x1), some (.int x2), some (.int x3)]) (st' := [.int 1]) rfl ?_
          exact dt36_30 hd ih hl hk_b0 h
def dm36_12 (b0 : Nat) (x1 : Int32) (y0 : Int32) (s : aS) : Option (Int32) :=
  dm36_15 5000 b0 x1 y0 0 s
set_option maxRecDepth 100000 in
theorem dt36_12 {sio : Bool} {tt : Nat} {cc : Nat → Nat → Int32} {d : Nat} (hd : 4 ≤ d) {b0 : Nat} {x1 : Int32} {y0 : Int32} {s : aS} (hl : Ly tt cc s) (hk_b0 : aK s b0 1) {o : Int32} (h : dm36_12  b0 x1 y0 s = some o) : Q 1 sio tt cc d 36 12 [some (.ref b0), some (.int x1), none, none] [.int y0] s (.inl (some (.int o)), s) := by
  unfold dm36_12 at h
  obtain ⟨d, rfl⟩ : ∃ e, d = e + 1 := ⟨d - 1, by omega⟩
  refine Q.run zm36 3 (i' := 15) (ls' := [some (.ref b0), some (.int x1), some (.int y0), some (.int 0)]) (st' := []) rfl ?_
  exact dt36_15 hd _ hl hk_b0 h
def dm36_11 (b0 : Nat) (x1 : Int32) (s : aS) : Option (Int32) :=
  dm36_12 b0 x1 0 s
set_option maxRecDepth 100000 in
theorem dt36_11 {sio : Bool} {tt : Nat} {cc : Nat → Nat → Int32} {d : Nat} (hd : 4 ≤ d) {b0 : Nat} {x1 : Int32} {s : aS} (hl : Ly tt cc s) (hk_b0 : aK s b0 1) {o : Int32} (h : dm36_11  b0 x1 s = some o) : Q 1 sio tt cc d 36 11 [some (.ref b0), some (.int x1), none, none] [] s (.inl (some (.int o)), s) := by
  unfold dm36_11 at h
  obtain ⟨d, rfl⟩ : ∃ e, d = e + 1 := ⟨d - 1, by omega⟩
  refine Q.run zm36 1 (i' := 12) (ls' := [some (.ref b0), some (.int x1), none, none]) (st' := [.int 0]) rfl ?_
  exact dt36_12 hd hl hk_b0 h
def dm36 (b0 : Nat) (s : aS) : Option (Int32) :=
  bu (dm28 b0 s) fun r3 =>
  if r3 < 1 then
    dm36_11 b0 r3 s
  else
    if 31 < r3 then
      dm36_11 b0 r3 s
    else
      dm36_12 b0 r3 1 s
set_option maxRecDepth 100000 in
theorem dt36 {sio : Bool} {tt : Nat} {cc : Nat → Nat → Int32} {d : Nat} (hd : 4 ≤ d) {b0 : Nat} {s : aS} (hl : Ly tt cc s) (hk_b0 : aK s b0 1) {o : Int32} (h : dm36  b0 s = some o) : Q 1 sio tt cc d 36 0 [some (.ref b0), none, none, none] [] s (.inl (some (.int o)), s) := by
  unfold dm36 at h
  obtain ⟨d, rfl⟩ : ∃ e, d = e + 1 := ⟨d - 1, by omega⟩
  refine Q.run zm36 1 (i' := 1) (ls' := [some (.ref b0), none, none, none]) (st' := [.ref b0]) rfl ?_
  obtain ⟨r3, hc2, h⟩ := bu_so h
  have hq1 : Q 1 sio tt cc d 28 0 [some (.ref b0)] [] s (.inl (some (.int r3)), s) := dt28 (by omega) hl hk_b0 hc2
  refine Q.callI (gC_vi zm36 (show zM36.2.2.2.2.2[1]? = some (1, 3, .invokevirtual 47, [0, 28, 0, 1]) from rfl) zm28 hk_b0.1 (hl.le hk_b0).1 rfl (show aCr 0 b0 [.ref b0] 1 = some ([some (.ref b0)], []) from rfl)) hq1 ?_
  refine Q.run zm36 3 (i' := 5) (ls' := [some (.ref b0), some (.int r3), none, none]) (st' := [.int 1, .int r3]) rfl ?_
  by_cases hc4 : r3 < 1
  · rw [if_pos hc4] at h
    refine Q.map (A.bT (gI_of zm36 (e := (7, 3, .if_icmp .lt 13, [11])) rfl) (decide_eq_true hc4)) ?_
    exact dt36_11 hd hl hk_b0 h
  · rw [if_neg hc4] at h
    refine Q.map (A.bF (gI_of zm36 (e := (7, 3, .if_icmp .lt 13, [11])) rfl) (fun q => hc4 (of_decide_eq_true q))) ?_
    refine Q.run zm36 2 (i' := 8) (ls' := [some (.ref b0), some (.int r3), none, none]) (st' := [.int 31, .int r3]) rfl ?_
    by_cases hc5 : 31 < r3
    · rw [if_pos hc5] at h
      refine Q.map (A.bT (gI_of zm36 (e := (13, 3, .if_icmp .gt 7, [11])) rfl) (decide_eq_true hc5)) ?_
      exact dt36_11 hd hl hk_b0 h
    · rw [if_neg hc5] at h
      refine Q.map (A.bF (gI_of zm36 (e := (13, 3, .if_icmp .gt 7, [11])) rfl) (fun q => hc5 (of_decide_eq_true q))) ?_
      refine Q.run zm36 2 (i' := 12) (ls' := [some (.ref b0), some (.int r3), none, none]) (st' := [.int 1]) rfl ?_
      exact dt36_12 hd hl hk_b0 h
/-! 31 FormulaTrees$Sheets.mayBear(LFormulaTrees$Letters;I)Z -/
set_option maxRecDepth 100000 in
theorem zm31 : zP[31]? = some zM31 := rfl
def dm31_13 (s : aS) : Option (Int32) :=
  some 1
set_option maxRecDepth 100000 in
theorem dt31_13 {sio : Bool} {tt : Nat} {cc : Nat → Nat → Int32} {d : Nat} (hd : 5 ≤ d) {b1 : Nat} {x2 : Int32} {x3 : Int32} {s : aS} (hl : Ly tt cc s) {o : Int32} (h : dm31_13  s = some o) : Q 1 sio tt cc d 31 13 [some (.ref 81), some (.ref b1), some (.int x2), some (.int x3)] [] s (.inl (some (.int o)), s) := by
  unfold dm31_13 at h
  obtain ⟨d, rfl⟩ : ∃ e, d = e + 1 := ⟨d - 1, by omega⟩
  refine Q.run zm31 2 (i' := 16) (ls' := [some (.ref 81), some (.ref b1), some (.int x2), some (.int x3)]) (st' := [.int 1]) rfl ?_
  cases h
  exact Q.ret (A.ri zm31 (show zM31.2.2.2.2.2[16]? = some (28, 1, .ireturn, []) from rfl) rfl rfl) hl
def dm31 (b1 : Nat) (x2 : Int32) (s : aS) : Option (Int32) :=
  bu (dm32 b1 s) fun r3 =>
  bu (dm36 b1 s) fun r6 =>
  if r6 = 0 then
    some 0
  else
    if r3 = (-1) then
      dm31_13 s
    else
      if r3 = x2 then
        dm31_13 s
      else
        some 0
set_option maxRecDepth 100000 in
theorem dt31 {sio : Bool} {tt : Nat} {cc : Nat → Nat → Int32} {d : Nat} (hd : 5 ≤ d) {b1 : Nat} {x2 : Int32} {s : aS} (hl : Ly tt cc s) (hk_b1 : aK s b1 1) {o : Int32} (h : dm31  b1 x2 s = some o) : Q 1 sio tt cc d 31 0 [some (.ref 81), some (.ref b1), some (.int x2), none] [] s (.inl (some (.int o)), s) := by
  unfold dm31 at h
  obtain ⟨d, rfl⟩ : ∃ e, d = e + 1 := ⟨d - 1, by omega⟩
  refine Q.run zm31 2 (i' := 2) (ls' := [some (.ref 81), some (.ref b1), some (.int x2), none]) (st' := [.ref b1, .ref 81]) rfl ?_
  obtain ⟨r3, hc2, h⟩ := bu_so h
  have hq1 : Q 1 sio tt cc d 32 0 [some (.ref 81), some (.ref b1), none] [] s (.inl (some (.int r3)), s) := dt32 (by omega) hl hk_b1 hc2
  refine Q.callI (gC_vi zm31 (show zM31.2.2.2.2.2[2]? = some (2, 3, .invokevirtual 40, [0, 32, 1, 2]) from rfl) zm32 (hl.lt (a := 81) (by decide)) (hl.T (a := 81) (p := (2, 3)) 3 rfl rfl) rfl (show aCr 1 81 [.ref b1, .ref 81] 3 = some ([some (.ref 81), some (.ref b1), none], []) from rfl)) hq1 ?_
  refine Q.run zm31 2 (i' := 5) (ls' := [some (.ref 81), some (.ref b1), some (.int x2), some (.int r3)]) (st' := [.ref b1]) rfl ?_
  obtain ⟨r6, hc5, h⟩ := bu_so h
  have hq4 : Q 1 sio tt cc d 36 0 [some (.ref b1), none, none, none] [] s (.inl (some (.int r6)), s) := dt36 (by omega) hl hk_b1 hc5
  refine Q.callI (gC_st zm31 (show zM31.2.2.2.2.2[5]? = some (7, 3, .invokestatic 44, [0, 36, 1]) from rfl) zm36 (show aC 1 [.ref b1] 4 = some ([some (.ref b1), none, none, none], []) from rfl)) hq4 ?_
  by_cases hc7 : r6 = 0
  · rw [if_pos hc7] at h
    refine Q.map (A.zT (gI_of zm31 (e := (10, 3, .ifCond .eq 17, [15])) rfl) (decide_eq_true hc7)) ?_
    refine Q.run zm31 1 (i' := 16) (ls' := [some (.ref 81), some (.ref b1), some (.int x2), some (.int r3)]) (st' := [.int 0]) rfl ?_
    cases h
    exact Q.ret (A.ri zm31 (show zM31.2.2.2.2.2[16]? = some (28, 1, .ireturn, []) from rfl) rfl rfl) hl
  · rw [if_neg hc7] at h
    refine Q.map (A.zF (gI_of zm31 (e := (10, 3, .ifCond .eq 17, [15])) rfl) (fun q => hc7 (of_decide_eq_true q))) ?_
    refine Q.run zm31 2 (i' := 9) (ls' := [some (.ref 81), some (.ref b1), some (.int x2), some (.int r3)]) (st' := [.int (-1), .int r3]) rfl ?_
    by_cases hc8 : r3 = (-1)
    · rw [if_pos hc8] at h
      refine Q.map (A.bT (gI_of zm31 (e := (15, 3, .if_icmp .eq 8, [13])) rfl) (decide_eq_true hc8)) ?_
      exact dt31_13 hd hl  h
    · rw [if_neg hc8] at h
      refine Q.map (A.bF (gI_of zm31 (e := (15, 3, .if_icmp .eq 8, [13])) rfl) (fun q => hc8 (of_decide_eq_true q))) ?_
      refine Q.run zm31 2 (i' := 12) (ls' := [some (.ref 81), some (.ref b1), some (.int x2), some (.int r3)]) (st' := [.int x2, .int r3]) rfl ?_
      by_cases hc9 : r3 = x2
      · rw [if_pos hc9] at h
        refine Q.map (A.bF (gI_of zm31 (e := (20, 3, .if_icmp .ne 7, [15])) rfl) (fun q => of_decide_eq_true q hc9)) ?_
        exact dt31_13 hd hl  h
      · rw [if_neg hc9] at h
        refine Q.map (A.bT (gI_of zm31 (e := (20, 3, .if_icmp .ne 7, [15])) rfl) (decide_eq_true hc9)) ?_
        refine Q.run zm31 1 (i' := 16) (ls' := [some (.ref 81), some (.ref b1), some (.int x2), some (.int r3)]) (st' := [.int 0]) rfl ?_
        cases h
        exact Q.ret (A.ri zm31 (show zM31.2.2.2.2.2[16]? = some (28, 1, .ireturn, []) from rfl) rfl rfl) hl
/-! 37 FormulaTrees$Sheets.isFull()Z -/
set_option maxRecDepth 100000 in
theorem zm37 : zP[37]? = some zM37 := rfl
def dm37 (s : aS) : Option (Int32) :=
  if (sI s 81 2) < 8 then
    some 0
  else
    some 1
set_option maxRecDepth 100000 in
theorem dt37 {sio : Bool} {tt : Nat} {cc : Nat → Nat → Int32} {d : Nat} (hd : 0 ≤ d) {s : aS} (hl : Ly tt cc s) {o : Int32} (h : dm37  s = some o) : Q 1 sio tt cc d 37 0 [some (.ref 81)] [] s (.inl (some (.int o)), s) := by
  unfold dm37 at h
  refine Q.run zm37 1 (i' := 1) (ls' := [some (.ref 81)]) (st' := [.ref 81]) rfl ?_
  refine Q.map (A.gf (gI_of zm37 (e := (1, 3, .getfield 24, [2, 2])) rfl) (hl.lt (a := 81) (by decide)) (hl.T (a := 81) (p := (2, 3)) 3 rfl rfl) (by decide) rfl) ?_
  refine Q.run zm37 1 (i' := 3) (ls' := [some (.ref 81)]) (st' := [.int 8, .int (sI s 81 2)]) rfl ?_
  by_cases hc1 : (sI s 81 2) < 8
  · rw [if_pos hc1] at h
    refine Q.map (A.bT (gI_of zm37 (e := (6, 3, .if_icmp .lt 7, [6])) rfl) (decide_eq_true hc1)) ?_
    refine Q.run zm37 1 (i' := 7) (ls' := [some (.ref 81)]) (st' := [.int 0]) rfl ?_
    cases h
    exact Q.ret (A.ri zm37 (show zM37.2.2.2.2.2[7]? = some (14, 1, .ireturn, []) from rfl) rfl rfl) hl
  · rw [if_neg hc1] at h
    refine Q.map (A.bF (gI_of zm37 (e := (6, 3, .if_icmp .lt 7, [6])) rfl) (fun q => hc1 (of_decide_eq_true q))) ?_
    refine Q.run zm37 2 (i' := 7) (ls' := [some (.ref 81)]) (st' := [.int 1]) rfl ?_
    cases h
    exact Q.ret (A.ri zm37 (show zM37.2.2.2.2.2[7]? = some (14, 1, .ireturn, []) from rfl) rfl rfl) hl
/-! 40 FormulaTrees$Sheets.has(I)Z -/
set_option maxRecDepth 100000 in
theorem zm40 : zP[40]? = some zM40 := rfl
def dm40 (x1 : Int32) (s : aS) : Option (Int32) :=
  if x1 < 0 then
    some 0
  else
    if (sI s 81 2) ≤ x1 then
      some 0
    else
      some 1
set_option maxRecDepth 100000 in
theorem dt40 {sio : Bool} {tt : Nat} {cc : Nat → Nat → Int32} {d : Nat} (hd : 0 ≤ d) {x1 : Int32} {s : aS} (hl : Ly tt cc s) {o : Int32} (h : dm40  x1 s = some o) : Q 1 sio tt cc d 40 0 [some (.ref 81), some (.int x1)] [] s (.inl (some (.int o)), s) := by
  unfold dm40 at h
  refine Q.run zm40 1 (i' := 1) (ls' := [some (.ref 81), some (.int x1)]) (st' := [.int x1]) rfl ?_
  by_cases hc1 : x1 < 0
  · rw [if_pos hc1] at h
    refine Q.map (A.zT (gI_of zm40 (e := (1, 3, .ifCond .lt 15, [8])) rfl) (decide_eq_true hc1)) ?_
    refine Q.run zm40 1 (i' := 9) (ls' := [some (.ref 81), some (.int x1)]) (st' := [.int 0]) rfl ?_
    cases h
    exact Q.ret (A.ri zm40 (show zM40.2.2.2.2.2[9]? = some (17, 1, .ireturn, []) from rfl) rfl rfl) hl
  · rw [if_neg hc1] at h
    refine Q.map (A.zF (gI_of zm40 (e := (1, 3, .ifCond .lt 15, [8])) rfl) (fun q => hc1 (of_decide_eq_true q))) ?_
    refine Q.run zm40 2 (i' := 4) (ls' := [some (.ref 81), some (.int x1)]) (st' := [.ref 81, .int x1]) rfl ?_
    refine Q.map (A.gf (gI_of zm40 (e := (6, 3, .getfield 24, [2, 2])) rfl) (hl.lt (a := 81) (by decide)) (hl.T (a := 81) (p := (2, 3)) 3 rfl rfl) (by decide) rfl) ?_
    by_cases hc2 : (sI s 81 2) ≤ x1
    · rw [if_pos hc2] at h
      refine Q.map (A.bT (gI_of zm40 (e := (9, 3, .if_icmp .ge 7, [8])) rfl) (decide_eq_true hc2)) ?_
      refine Q.run zm40 1 (i' := 9) (ls' := [some (.ref 81), some (.int x1)]) (st' := [.int 0]) rfl ?_
      cases h
      exact Q.ret (A.ri zm40 (show zM40.2.2.2.2.2[9]? = some (17, 1, .ireturn, []) from rfl) rfl rfl) hl
    · rw [if_neg hc2] at h
      refine Q.map (A.bF (gI_of zm40 (e := (9, 3, .if_icmp .ge 7, [8])) rfl) (fun q => hc2 (of_decide_eq_true q))) ?_
      refine Q.run zm40 2 (i' := 9) (ls' := [some (.ref 81), some (.int x1)]) (st' := [.int 1]) rfl ?_
      cases h
      exact Q.ret (A.ri zm40 (show zM40.2.2.2.2.2[9]? = some (17, 1, .ireturn, []) from rfl) rfl rfl) hl
/-! 41 FormulaTrees$Letters.become(LFormulaTrees$Letters;)V -/
set_option maxRecDepth 100000 in
theorem zm41 : zP[41]? = some zM41 := rfl
def dm41_4 : Nat → Nat → Nat → Int32 → aS → Option (aS)
  | 0, _, _, _, _ => none
  | n + 1, b0, b1, x2, s =>
    bu (dm28 b1 s) fun r3 =>
    if r3 ≤ x2 then
      some s
    else
      bu (dm34 b1 x2 s) fun r7 =>
      bu (dm29 b0 r7 s) fun s10 =>
      dm41_4 n b0 b1 (x2 + 1) s10
set_option maxRecDepth 100000 in
theorem dt41_4 {sio : Bool} {tt : Nat} {cc : Nat → Nat → Int32} {d : Nat} (hd : 1 ≤ d) : ∀ (n : Nat) {b0 : Nat} {b1 : Nat} {x2 : Int32} {s : aS} (_ : Ly tt cc s) (_ : aK s b0 1) (_ : aK s b1 1) {o : aS} (_ : dm41_4  n b0 b1 x2 s = some o), Q 1 sio tt cc d 41 4 [some (.ref b0), some (.ref b1), some (.int x2)] [] s (.inl none, o) := by
  obtain ⟨d, rfl⟩ : ∃ e, d = e + 1 := ⟨d - 1, by omega⟩
  intro n
  induction n with
  | zero => intro b0 b1 x2 s hl hk_b0 hk_b1 o h; rw [dm41_4] at h; cases h
  | succ n ih =>
    intro b0 b1 x2 s hl hk_b0 hk_b1 o h
    rw [dm41_4] at h
    refine Q.run zm41 2 (i' := 6) (ls' := [some (.ref b0), some (.ref b1), some (.int x2)]) (st' := [.ref b1, .int x2]) rfl ?_
    obtain ⟨r3, hc2, h⟩ := bu_so h
    have hq1 : Q 1 sio tt cc d 28 0 [some (.ref b1)] [] s (.inl (some (.int r3)), s) := dt28 (by omega) hl hk_b1 hc2
    refine Q.callI (gC_vi zm41 (show zM41.2.2.2.2.2[6]? = some (8, 3, .invokevirtual 22, [0, 28, 0, 1]) from rfl) zm28 hk_b1.1 (hl.le hk_b1).1 rfl (show aCr 0 b1 [.ref b1, .int x2] 1 = some ([some (.ref b1)], [.int x2]) from rfl)) hq1 ?_
    by_cases hc4 : r3 ≤ x2
    · rw [if_pos hc4] at h
      refine Q.map (A.bT (gI_of zm41 (e := (11, 3, .if_icmp .ge 18, [15])) rfl) (decide_eq_true hc4)) ?_
      cases h
      exact Q.ret (A.rv zm41 (show zM41.2.2.2.2.2[15]? = some (29, 1, .return_, []) from rfl) rfl) hl
    · rw [if_neg hc4] at h
      refine Q.map (A.bF (gI_of zm41 (e := (11, 3, .if_icmp .ge 18, [15])) rfl) (fun q => hc4 (of_decide_eq_true q))) ?_
      refine Q.run zm41 3 (i' := 11) (ls' := [some (.ref b0), some (.ref b1), some (.int x2)]) (st' := [.int x2, .ref b1, .ref b0]) rfl ?_
      obtain ⟨r7, hc6, h⟩ := bu_so h
      have hq5 : Q 1 sio tt cc d 34 0 [some (.ref b1), some (.int x2)] [] s (.inl (some (.int r7)), s) := dt34 (by omega) hl hk_b1 hc6
      refine Q.callI (gC_vi zm41 (show zM41.2.2.2.2.2[11]? = some (17, 3, .invokevirtual 25, [0, 34, 1, 1]) from rfl) zm34 hk_b1.1 (hl.le hk_b1).1 rfl (show aCr 1 b1 [.int x2, .ref b1, .ref b0] 2 = some ([some (.ref b1), some (.int x2)], [.ref b0]) from rfl)) hq5 ?_
      obtain ⟨s10, hc9, h⟩ := bu_so h
      have hq8 : Q 1 sio tt cc d 29 0 [some (.ref b0), some (.int r7)] [] s (.inl none, s10) := dt29 (by omega) hl hk_b0 hc9
      refine Q.callV (gC_vi zm41 (show zM41.2.2.2.2.2[12]? = some (20, 3, .invokevirtual 29, [0, 29, 1, 1]) from rfl) zm29 hk_b0.1 (hl.le hk_b0).1 rfl (show aCr 1 b0 [.int r7, .ref b0] 2 = some ([some (.ref b0), some (.int r7)], []) from rfl)) hq8 ?_
      have hr11 : aK s10 b0 1 := hq8.2.1.k hk_b0
      have hr12 : aK s10 b1 1 := hq8.2.1.k hk_b1
      refine Q.run zm41 2 (i' := 4) (ls' := [some (.ref b0), some (.ref b1), some (.int (x2 + 1))]) (st' := []) rfl ?_
      exact ih hq8.1 hr11 hr12 h
def dm41 (b0 : Nat) (b1 : Nat) (s : aS) : Option (aS) :=
  bu (dm26 b0 s) fun s3 =>
  dm41_4 5000 b0 b1 0 s3
set_option maxRecDepth 100000 in
theorem dt41 {sio : Bool} {tt : Nat} {cc : Nat → Nat → Int32} {d : Nat} (hd : 1 ≤ d) {b0 : Nat} {b1 : Nat} {s : aS} (hl : Ly tt cc s) (hk_b0 : aK s b0 1) (hk_b1 : aK s b1 1) {o : aS} (h : dm41  b0 b1 s = some o) : Q 1 sio tt cc d 41 0 [some (.ref b0), some (.ref b1), none] [] s (.inl none, o) := by
  unfold dm41 at h
  obtain ⟨d, rfl⟩ : ∃ e, d = e + 1 := ⟨d - 1, by omega⟩
  refine Q.run zm41 1 (i' := 1) (ls' := [some (.ref b0), some (.ref b1), none]) (st' := [.ref b0]) rfl ?_
  obtain ⟨s3, hc2, h⟩ := bu_so h
  have hq1 : Q 1 sio tt cc d 26 0 [some (.ref b0)] [] s (.inl none, s3) := dt26 (by omega) hl hk_b0 hc2
  refine Q.callV (gC_vi zm41 (show zM41.2.2.2.2.2[1]? = some (1, 3, .invokevirtual 19, [0, 26, 0, 1]) from rfl) zm26 hk_b0.1 (hl.le hk_b0).1 rfl (show aCr 0 b0 [.ref b0] 1 = some ([some (.ref b0)], []) from rfl)) hq1 ?_
  have hr4 : aK s3 b0 1 := hq1.2.1.k hk_b0
  have hr5 : aK s3 b1 1 := hq1.2.1.k hk_b1
  refine Q.run zm41 2 (i' := 4) (ls' := [some (.ref b0), some (.ref b1), some (.int 0)]) (st' := []) rfl ?_
  exact dt41_4 hd _ hq1.1 hr4 hr5 h
/-! 45 FormulaTrees$Signs.isLetter(I)Z -/
set_option maxRecDepth 100000 in
theorem zm45 : zP[45]? = some zM45 := rfl
def dm45_12 : Option (Int32) :=
  some 1
set_option maxRecDepth 100000 in
theorem dt45_12 {sio : Bool} {tt : Nat} {cc : Nat → Nat → Int32} {d : Nat} (hd : 0 ≤ d) {x0 : Int32} {s : aS} (hl : Ly tt cc s) {o : Int32} (h : dm45_12   = some o) : Q 1 sio tt cc d 45 12 [some (.int x0)] [] s (.inl (some (.int o)), s) := by
  unfold dm45_12 at h
  refine Q.run zm45 2 (i' := 15) (ls' := [some (.int x0)]) (st' := [.int 1]) rfl ?_
  cases h
  exact Q.ret (A.ri zm45 (show zM45.2.2.2.2.2[15]? = some (29, 1, .ireturn, []) from rfl) rfl rfl) hl
def dm45_6 (x0 : Int32) : Option (Int32) :=
  if x0 < 97 then
    some 0
  else
    if 122 < x0 then
      some 0
    else
      dm45_12 
set_option maxRecDepth 100000 in
theorem dt45_6 {sio : Bool} {tt : Nat} {cc : Nat → Nat → Int32} {d : Nat} (hd : 0 ≤ d) {x0 : Int32} {s : aS} (hl : Ly tt cc s) {o : Int32} (h : dm45_6  x0 = some o) : Q 1 sio tt cc d 45 6 [some (.int x0)] [] s (.inl (some (.int o)), s) := by
  unfold dm45_6 at h
  refine Q.run zm45 2 (i' := 8) (ls' := [some (.int x0)]) (st' := [.int 97, .int x0]) rfl ?_
  by_cases hc1 : x0 < 97
  · rw [if_pos hc1] at h
    refine Q.map (A.bT (gI_of zm45 (e := (15, 3, .if_icmp .lt 13, [14])) rfl) (decide_eq_true hc1)) ?_
    refine Q.run zm45 1 (i' := 15) (ls' := [some (.int x0)]) (st' := [.int 0]) rfl ?_
    cases h
    exact Q.ret (A.ri zm45 (show zM45.2.2.2.2.2[15]? = some (29, 1, .ireturn, []) from rfl) rfl rfl) hl
  · rw [if_neg hc1] at h
    refine Q.map (A.bF (gI_of zm45 (e := (15, 3, .if_icmp .lt 13, [14])) rfl) (fun q => hc1 (of_decide_eq_true q))) ?_
    refine Q.run zm45 2 (i' := 11) (ls' := [some (.int x0)]) (st' := [.int 122, .int x0]) rfl ?_
    by_cases hc2 : 122 < x0
    · rw [if_pos hc2] at h
      refine Q.map (A.bT (gI_of zm45 (e := (21, 3, .if_icmp .gt 7, [14])) rfl) (decide_eq_true hc2)) ?_
      refine Q.run zm45 1 (i' := 15) (ls' := [some (.int x0)]) (st' := [.int 0]) rfl ?_
      cases h
      exact Q.ret (A.ri zm45 (show zM45.2.2.2.2.2[15]? = some (29, 1, .ireturn, []) from rfl) rfl rfl) hl
    · rw [if_neg hc2] at h
      refine Q.map (A.bF (gI_of zm45 (e := (21, 3, .if_icmp .gt 7, [14])) rfl) (fun q => hc2 (of_decide_eq_true q))) ?_
      exact dt45_12 hd hl  h
def dm45 (x0 : Int32) : Option (Int32) :=
  if x0 < 65 then
    dm45_6 x0
  else
    if x0 ≤ 90 then
      dm45_12 
    else
      dm45_6 x0
set_option maxRecDepth 100000 in
theorem dt45 {sio : Bool} {tt : Nat} {cc : Nat → Nat → Int32} {d : Nat} (hd : 0 ≤ d) {x0 : Int32} {s : aS} (hl : Ly tt cc s) {o : Int32} (h : dm45  x0 = some o) : Q 1 sio tt cc d 45 0 [some (.int x0)] [] s (.inl (some (.int o)), s) := by
  unfold dm45 at h
  refine Q.run zm45 2 (i' := 2) (ls' := [some (.int x0)]) (st' := [.int 65, .int x0]) rfl ?_
  by_cases hc1 : x0 < 65
  · rw [if_pos hc1] at h
    refine Q.map (A.bT (gI_of zm45 (e := (3, 3, .if_icmp .lt 9, [6])) rfl) (decide_eq_true hc1)) ?_
    exact dt45_6 hd hl  h
  · rw [if_neg hc1] at h
    refine Q.map (A.bF (gI_of zm45 (e := (3, 3, .if_icmp .lt 9, [6])) rfl) (fun q => hc1 (of_decide_eq_true q))) ?_
    refine Q.run zm45 2 (i' := 5) (ls' := [some (.int x0)]) (st' := [.int 90, .int x0]) rfl ?_
    by_cases hc2 : x0 ≤ 90
    · rw [if_pos hc2] at h
      refine Q.map (A.bT (gI_of zm45 (e := (9, 3, .if_icmp .le 15, [12])) rfl) (decide_eq_true hc2)) ?_
      exact dt45_12 hd hl  h
    · rw [if_neg hc2] at h
      refine Q.map (A.bF (gI_of zm45 (e := (9, 3, .if_icmp .le 15, [12])) rfl) (fun q => hc2 (of_decide_eq_true q))) ?_
      exact dt45_6 hd hl  h
/-! 44 FormulaTrees$Signs.beginsWord(I)Z -/
set_option maxRecDepth 100000 in
theorem zm44 : zP[44]? = some zM44 := rfl
def dm44_6 : Option (Int32) :=
  some 1
set_option maxRecDepth 100000 in
theorem dt44_6 {sio : Bool} {tt : Nat} {cc : Nat → Nat → Int32} {d : Nat} (hd : 1 ≤ d) {x0 : Int32} {s : aS} (hl : Ly tt cc s) {o : Int32} (h : dm44_6   = some o) : Q 1 sio tt cc d 44 6 [some (.int x0)] [] s (.inl (some (.int o)), s) := by
  unfold dm44_6 at h
  obtain ⟨d, rfl⟩ : ∃ e, d = e + 1 := ⟨d - 1, by omega⟩
  refine Q.run zm44 2 (i' := 9) (ls' := [some (.int x0)]) (st' := [.int 1]) rfl ?_
  cases h
  exact Q.ret (A.ri zm44 (show zM44.2.2.2.2.2[9]? = some (18, 1, .ireturn, []) from rfl) rfl rfl) hl
def dm44 (x0 : Int32) : Option (Int32) :=
  bu (dm45 x0) fun r3 =>
  if r3 = 0 then
    if x0 = 95 then
      dm44_6 
    else
      some 0
  else
    dm44_6 
set_option maxRecDepth 100000 in
theorem dt44 {sio : Bool} {tt : Nat} {cc : Nat → Nat → Int32} {d : Nat} (hd : 1 ≤ d) {x0 : Int32} {s : aS} (hl : Ly tt cc s) {o : Int32} (h : dm44  x0 = some o) : Q 1 sio tt cc d 44 0 [some (.int x0)] [] s (.inl (some (.int o)), s) := by
  unfold dm44 at h
  obtain ⟨d, rfl⟩ : ∃ e, d = e + 1 := ⟨d - 1, by omega⟩
  refine Q.run zm44 1 (i' := 1) (ls' := [some (.int x0)]) (st' := [.int x0]) rfl ?_
  obtain ⟨r3, hc2, h⟩ := bu_so h
  have hq1 : Q 1 sio tt cc d 45 0 [some (.int x0)] [] s (.inl (some (.int r3)), s) := dt45 (by omega) hl  hc2
  refine Q.callI (gC_st zm44 (show zM44.2.2.2.2.2[1]? = some (1, 3, .invokestatic 7, [0, 45, 1]) from rfl) zm45 (show aC 1 [.int x0] 1 = some ([some (.int x0)], []) from rfl)) hq1 ?_
  by_cases hc4 : r3 = 0
  · rw [if_pos hc4] at h
    refine Q.map (A.zF (gI_of zm44 (e := (4, 3, .ifCond .ne 9, [6])) rfl) (fun q => of_decide_eq_true q hc4)) ?_
    refine Q.run zm44 2 (i' := 5) (ls' := [some (.int x0)]) (st' := [.int 95, .int x0]) rfl ?_
    by_cases hc5 : x0 = 95
    · rw [if_pos hc5] at h
      refine Q.map (A.bF (gI_of zm44 (e := (10, 3, .if_icmp .ne 7, [8])) rfl) (fun q => of_decide_eq_true q hc5)) ?_
      exact dt44_6 hd hl  h
    · rw [if_neg hc5] at h
      refine Q.map (A.bT (gI_of zm44 (e := (10, 3, .if_icmp .ne 7, [8])) rfl) (decide_eq_true hc5)) ?_
      refine Q.run zm44 1 (i' := 9) (ls' := [some (.int x0)]) (st' := [.int 0]) rfl ?_
      cases h
      exact Q.ret (A.ri zm44 (show zM44.2.2.2.2.2[9]? = some (18, 1, .ireturn, []) from rfl) rfl rfl) hl
  · rw [if_neg hc4] at h
    refine Q.map (A.zT (gI_of zm44 (e := (4, 3, .ifCond .ne 9, [6])) rfl) (decide_eq_true hc4)) ?_
    exact dt44_6 hd hl  h
/-! 47 FormulaTrees$Signs.isDigit(I)Z -/
set_option maxRecDepth 100000 in
theorem zm47 : zP[47]? = some zM47 := rfl
def dm47 (x0 : Int32) : Option (Int32) :=
  if x0 < 48 then
    some 0
  else
    if 57 < x0 then
      some 0
    else
      some 1
set_option maxRecDepth 100000 in
theorem dt47 {sio : Bool} {tt : Nat} {cc : Nat → Nat → Int32} {d : Nat} (hd : 0 ≤ d) {x0 : Int32} {s : aS} (hl : Ly tt cc s) {o : Int32} (h : dm47  x0 = some o) : Q 1 sio tt cc d 47 0 [some (.int x0)] [] s (.inl (some (.int o)), s) := by
  unfold dm47 at h
  refine Q.run zm47 2 (i' := 2) (ls' := [some (.int x0)]) (st' := [.int 48, .int x0]) rfl ?_
  by_cases hc1 : x0 < 48
  · rw [if_pos hc1] at h
    refine Q.map (A.bT (gI_of zm47 (e := (3, 3, .if_icmp .lt 13, [8])) rfl) (decide_eq_true hc1)) ?_
    refine Q.run zm47 1 (i' := 9) (ls' := [some (.int x0)]) (st' := [.int 0]) rfl ?_
    cases h
    exact Q.ret (A.ri zm47 (show zM47.2.2.2.2.2[9]? = some (17, 1, .ireturn, []) from rfl) rfl rfl) hl
  · rw [if_neg hc1] at h
    refine Q.map (A.bF (gI_of zm47 (e := (3, 3, .if_icmp .lt 13, [8])) rfl) (fun q => hc1 (of_decide_eq_true q))) ?_
    refine Q.run zm47 2 (i' := 5) (ls' := [some (.int x0)]) (st' := [.int 57, .int x0]) rfl ?_
    by_cases hc2 : 57 < x0
    · rw [if_pos hc2] at h
      refine Q.map (A.bT (gI_of zm47 (e := (9, 3, .if_icmp .gt 7, [8])) rfl) (decide_eq_true hc2)) ?_
      refine Q.run zm47 1 (i' := 9) (ls' := [some (.int x0)]) (st' := [.int 0]) rfl ?_
      cases h
      exact Q.ret (A.ri zm47 (show zM47.2.2.2.2.2[9]? = some (17, 1, .ireturn, []) from rfl) rfl rfl) hl
    · rw [if_neg hc2] at h
      refine Q.map (A.bF (gI_of zm47 (e := (9, 3, .if_icmp .gt 7, [8])) rfl) (fun q => hc2 (of_decide_eq_true q))) ?_
      refine Q.run zm47 2 (i' := 9) (ls' := [some (.int x0)]) (st' := [.int 1]) rfl ?_
      cases h
      exact Q.ret (A.ri zm47 (show zM47.2.2.2.2.2[9]? = some (17, 1, .ireturn, []) from rfl) rfl rfl) hl
/-! 46 FormulaTrees$Signs.goesOnInWord(I)Z -/
set_option maxRecDepth 100000 in
theorem zm46 : zP[46]? = some zM46 := rfl
def dm46_12 : Option (Int32) :=
  some 1
set_option maxRecDepth 100000 in
theorem dt46_12 {sio : Bool} {tt : Nat} {cc : Nat → Nat → Int32} {d : Nat} (hd : 1 ≤ d) {x0 : Int32} {s : aS} (hl : Ly tt cc s) {o : Int32} (h : dm46_12   = some o) : Q 1 sio tt cc d 46 12 [some (.int x0)] [] s (.inl (some (.int o)), s) := by
  unfold dm46_12 at h
  obtain ⟨d, rfl⟩ : ∃ e, d = e + 1 := ⟨d - 1, by omega⟩
  refine Q.run zm46 2 (i' := 15) (ls' := [some (.int x0)]) (st' := [.int 1]) rfl ?_
  cases h
  exact Q.ret (A.ri zm46 (show zM46.2.2.2.2.2[15]? = some (31, 1, .ireturn, []) from rfl) rfl rfl) hl
def dm46 (x0 : Int32) : Option (Int32) :=
  bu (dm45 x0) fun r3 =>
  if r3 = 0 then
    bu (dm47 x0) fun r7 =>
    if r7 = 0 then
      if x0 = 95 then
        dm46_12 
      else
        if x0 = 46 then
          dm46_12 
        else
          some 0
    else
      dm46_12 
  else
    dm46_12 
set_option maxRecDepth 100000 in
theorem dt46 {sio : Bool} {tt : Nat} {cc : Nat → Nat → Int32} {d : Nat} (hd : 1 ≤ d) {x0 : Int32} {s : aS} (hl : Ly tt cc s) {o : Int32} (h : dm46  x0 = some o) : Q 1 sio tt cc d 46 0 [some (.int x0)] [] s (.inl (some (.int o)), s) := by
  unfold dm46 at h
  obtain ⟨d, rfl⟩ : ∃ e, d = e + 1 := ⟨d - 1, by omega⟩
  refine Q.run zm46 1 (i' := 1) (ls' := [some (.int x0)]) (st' := [.int x0]) rfl ?_
  obtain ⟨r3, hc2, h⟩ := bu_so h
  have hq1 : Q 1 sio tt cc d 45 0 [some (.int x0)] [] s (.inl (some (.int r3)), s) := dt45 (by omega) hl  hc2
  refine Q.callI (gC_st zm46 (show zM46.2.2.2.2.2[1]? = some (1, 3, .invokestatic 7, [0, 45, 1]) from rfl) zm45 (show aC 1 [.int x0] 1 = some ([some (.int x0)], []) from rfl)) hq1 ?_
  by_cases hc4 : r3 = 0
  · rw [if_pos hc4] at h
    refine Q.map (A.zF (gI_of zm46 (e := (4, 3, .ifCond .ne 22, [12])) rfl) (fun q => of_decide_eq_true q hc4)) ?_
    refine Q.run zm46 1 (i' := 4) (ls' := [some (.int x0)]) (st' := [.int x0]) rfl ?_
    obtain ⟨r7, hc6, h⟩ := bu_so h
    have hq5 : Q 1 sio tt cc d 47 0 [some (.int x0)] [] s (.inl (some (.int r7)), s) := dt47 (by omega) hl  hc6
    refine Q.callI (gC_st zm46 (show zM46.2.2.2.2.2[4]? = some (8, 3, .invokestatic 13, [0, 47, 1]) from rfl) zm47 (show aC 1 [.int x0] 1 = some ([some (.int x0)], []) from rfl)) hq5 ?_
    by_cases hc8 : r7 = 0
    · rw [if_pos hc8] at h
      refine Q.map (A.zF (gI_of zm46 (e := (11, 3, .ifCond .ne 15, [12])) rfl) (fun q => of_decide_eq_true q hc8)) ?_
      refine Q.run zm46 2 (i' := 8) (ls' := [some (.int x0)]) (st' := [.int 95, .int x0]) rfl ?_
      by_cases hc9 : x0 = 95
      · rw [if_pos hc9] at h
        refine Q.map (A.bT (gI_of zm46 (e := (17, 3, .if_icmp .eq 9, [12])) rfl) (decide_eq_true hc9)) ?_
        exact dt46_12 hd hl  h
      · rw [if_neg hc9] at h
        refine Q.map (A.bF (gI_of zm46 (e := (17, 3, .if_icmp .eq 9, [12])) rfl) (fun q => hc9 (of_decide_eq_true q))) ?_
        refine Q.run zm46 2 (i' := 11) (ls' := [some (.int x0)]) (st' := [.int 46, .int x0]) rfl ?_
        by_cases hc10 : x0 = 46
        · rw [if_pos hc10] at h
          refine Q.map (A.bF (gI_of zm46 (e := (23, 3, .if_icmp .ne 7, [14])) rfl) (fun q => of_decide_eq_true q hc10)) ?_
          exact dt46_12 hd hl  h
        · rw [if_neg hc10] at h
          refine Q.map (A.bT (gI_of zm46 (e := (23, 3, .if_icmp .ne 7, [14])) rfl) (decide_eq_true hc10)) ?_
          refine Q.run zm46 1 (i' := 15) (ls' := [some (.int x0)]) (st' := [.int 0]) rfl ?_
          cases h
          exact Q.ret (A.ri zm46 (show zM46.2.2.2.2.2[15]? = some (31, 1, .ireturn, []) from rfl) rfl rfl) hl
    · rw [if_neg hc8] at h
      refine Q.map (A.zT (gI_of zm46 (e := (11, 3, .ifCond .ne 15, [12])) rfl) (decide_eq_true hc8)) ?_
      exact dt46_12 hd hl  h
  · rw [if_neg hc4] at h
    refine Q.map (A.zT (gI_of zm46 (e := (4, 3, .ifCond .ne 22, [12])) rfl) (decide_eq_true hc4)) ?_
    exact dt46_12 hd hl  h
/-! 43 FormulaTrees$Letters.wordEnd(I)I -/
set_option maxRecDepth 100000 in
theorem zm43 : zP[43]? = some zM43 := rfl
def dm43_7 : Nat → Nat → Int32 → aS → Option (Int32)
  | 0, _, _, _ => none
  | n + 1, b0, x2, s =>
    if (sI s b0 1) ≤ x2 then
      some x2
    else
      bu (dm34 b0 x2 s) fun r4 =>
      bu (dm46 r4) fun r7 =>
      if r7 = 0 then
        some x2
      else
        dm43_7 n b0 (x2 + 1) s
set_option maxRecDepth 100000 in
theorem dt43_7 {sio : Bool} {tt : Nat} {cc : Nat → Nat → Int32} {d : Nat} (hd : 2 ≤ d) : ∀ (n : Nat) {b0 : Nat} {x2 : Int32} {x1 : Int32} {s : aS} (_ : Ly tt cc s) (_ : aK s b0 1) {o : Int32} (_ : dm43_7  n b0 x2 s = some o), Q 1 sio tt cc d 43 7 [some (.ref b0), some (.int x1), some (.int x2)] [] s (.inl (some (.int o)), s) := by
  obtain ⟨d, rfl⟩ : ∃ e, d = e + 1 := ⟨d - 1, by omega⟩
  intro n
  induction n with
  | zero => intro b0 x2 x1 s hl hk_b0 o h; rw [dm43_7] at h; cases h
  | succ n ih =>
    intro b0 x2 x1 s hl hk_b0 o h
    rw [dm43_7] at h
    refine Q.run zm43 2 (i' := 9) (ls' := [some (.ref b0), some (.int x1), some (.int x2)]) (st' := [.ref b0, .int x2]) rfl ?_
    refine Q.map (A.gf (gI_of zm43 (e := (15, 3, .getfield 15, [1, 1])) rfl) hk_b0.1 (hl.le hk_b0).1 (by decide) rfl) ?_
    by_cases hc1 : (sI s b0 1) ≤ x2
    · rw [if_pos hc1] at h
      refine Q.map (A.bT (gI_of zm43 (e := (18, 3, .if_icmp .ge 20, [18])) rfl) (decide_eq_true hc1)) ?_
      refine Q.run zm43 1 (i' := 19) (ls' := [some (.ref b0), some (.int x1), some (.int x2)]) (st' := [.int x2]) rfl ?_
      cases h
      exact Q.ret (A.ri zm43 (show zM43.2.2.2.2.2[19]? = some (39, 1, .ireturn, []) from rfl) rfl rfl) hl
    · rw [if_neg hc1] at h
      refine Q.map (A.bF (gI_of zm43 (e := (18, 3, .if_icmp .ge 20, [18])) rfl) (fun q => hc1 (of_decide_eq_true q))) ?_
      refine Q.run zm43 2 (i' := 13) (ls' := [some (.ref b0), some (.int x1), some (.int x2)]) (st' := [.int x2, .ref b0]) rfl ?_
      obtain ⟨r4, hc3, h⟩ := bu_so h
      have hq2 : Q 1 sio tt cc d 34 0 [some (.ref b0), some (.int x2)] [] s (.inl (some (.int r4)), s) := dt34 (by omega) hl hk_b0 hc3
      refine Q.callI (gC_vi zm43 (show zM43.2.2.2.2.2[13]? = some (23, 3, .invokevirtual 25, [0, 34, 1, 1]) from rfl) zm34 hk_b0.1 (hl.le hk_b0).1 rfl (show aCr 1 b0 [.int x2, .ref b0] 2 = some ([some (.ref b0), some (.int x2)], []) from rfl)) hq2 ?_
      obtain ⟨r7, hc6, h⟩ := bu_so h
      have hq5 : Q 1 sio tt cc d 46 0 [some (.int r4)] [] s (.inl (some (.int r7)), s) := dt46 (by omega) hl  hc6
      refine Q.callI (gC_st zm43 (show zM43.2.2.2.2.2[14]? = some (26, 3, .invokestatic 57, [0, 46, 1]) from rfl) zm46 (show aC 1 [.int r4] 1 = some ([some (.int r4)], []) from rfl)) hq5 ?_
      by_cases hc8 : r7 = 0
      · rw [if_pos hc8] at h
        refine Q.map (A.zT (gI_of zm43 (e := (29, 3, .ifCond .eq 9, [18])) rfl) (decide_eq_true hc8)) ?_
        refine Q.run zm43 1 (i' := 19) (ls' := [some (.ref b0), some (.int x1), some (.int x2)]) (st' := [.int x2]) rfl ?_
        cases h
        exact Q.ret (A.ri zm43 (show zM43.2.2.2.2.2[19]? = some (39, 1, .ireturn, []) from rfl) rfl rfl) hl
      · rw [if_neg hc8] at h
        refine Q.map (A.zF (gI_of zm43 (e := (29, 3, .ifCond .eq 9, [18])) rfl) (fun q => hc8 (of_decide_eq_true q))) ?_
        refine Q.run zm43 2 (i' := 7) (ls' := [some (.ref b0), some (.int x1), some (.int (x2 + 1))]) (st' := []) rfl ?_
        exact ih hl hk_b0 h
def dm43 (b0 : Nat) (x1 : Int32) (s : aS) : Option (Int32) :=
  bu (dm34 b0 x1 s) fun r3 =>
  bu (dm44 r3) fun r6 =>
  if r6 = 0 then
    some x1
  else
    dm43_7 5000 b0 x1 s
set_option maxRecDepth 100000 in
theorem dt43 {sio : Bool} {tt : Nat} {cc : Nat → Nat → Int32} {d : Nat} (hd : 2 ≤ d) {b0 : Nat} {x1 : Int32} {s : aS} (hl : Ly tt cc s) (hk_b0 : aK s b0 1) {o : Int32} (h : dm43  b0 x1 s = some o) : Q 1 sio tt cc d 43 0 [some (.ref b0), some (.int x1), none] [] s (.inl (some (.int o)), s) := by
  unfold dm43 at h
  obtain ⟨d, rfl⟩ : ∃ e, d = e + 1 := ⟨d - 1, by omega⟩
  refine Q.run zm43 4 (i' := 4) (ls' := [some (.ref b0), some (.int x1), some (.int x1)]) (st' := [.int x1, .ref b0]) rfl ?_
  obtain ⟨r3, hc2, h⟩ := bu_so h
  have hq1 : Q 1 sio tt cc d 34 0 [some (.ref b0), some (.int x1)] [] s (.inl (some (.int r3)), s) := dt34 (by omega) hl hk_b0 hc2
  refine Q.callI (gC_vi zm43 (show zM43.2.2.2.2.2[4]? = some (4, 3, .invokevirtual 25, [0, 34, 1, 1]) from rfl) zm34 hk_b0.1 (hl.le hk_b0).1 rfl (show aCr 1 b0 [.int x1, .ref b0] 2 = some ([some (.ref b0), some (.int x1)], []) from rfl)) hq1 ?_
  obtain ⟨r6, hc5, h⟩ := bu_so h
  have hq4 : Q 1 sio tt cc d 44 0 [some (.int r3)] [] s (.inl (some (.int r6)), s) := dt44 (by omega) hl  hc5
  refine Q.callI (gC_st zm43 (show zM43.2.2.2.2.2[5]? = some (7, 3, .invokestatic 53, [0, 44, 1]) from rfl) zm44 (show aC 1 [.int r3] 1 = some ([some (.int r3)], []) from rfl)) hq4 ?_
  by_cases hc7 : r6 = 0
  · rw [if_pos hc7] at h
    refine Q.map (A.zT (gI_of zm43 (e := (10, 3, .ifCond .eq 28, [18])) rfl) (decide_eq_true hc7)) ?_
    refine Q.run zm43 1 (i' := 19) (ls' := [some (.ref b0), some (.int x1), some (.int x1)]) (st' := [.int x1]) rfl ?_
    cases h
    exact Q.ret (A.ri zm43 (show zM43.2.2.2.2.2[19]? = some (39, 1, .ireturn, []) from rfl) rfl rfl) hl
  · rw [if_neg hc7] at h
    refine Q.map (A.zF (gI_of zm43 (e := (10, 3, .ifCond .eq 28, [18])) rfl) (fun q => hc7 (of_decide_eq_true q))) ?_
    exact dt43_7 hd _ hl hk_b0 h
/-! 262 jdk/internal/util/Preconditions.checkIndex(IILjava/util/function/BiFunction;)I -/
set_option maxRecDepth 100000 in
theorem zm262 : zP[262]? = some zM262 := rfl
def dm262_5 (x0 : Int32) (x1 : Int32) : Option (Int32) :=
  none
set_option maxRecDepth 100000 in
theorem dt262_5 {f : Nat} {sio : Bool} {tt : Nat} {cc : Nat → Nat → Int32} {d : Nat} (hd : 0 ≤ d) {x0 : Int32} {x1 : Int32} {v2 : Value} {s : aS} (hl : Ly tt cc s) {o : Int32} (h : dm262_5  x0 x1 = some o) : Q f sio tt cc d 262 5 [some (.int x0), some (.int x1), some (v2)] [] s (.inl (some (.int o)), s) := by
  unfold dm262_5 at h
  cases h
def dm262 (x0 : Int32) (x1 : Int32) : Option (Int32) :=
  if x0 < 0 then
    dm262_5 x0 x1
  else
    if x0 < x1 then
      some x0
    else
      dm262_5 x0 x1
set_option maxRecDepth 100000 in
theorem dt262 {f : Nat} {sio : Bool} {tt : Nat} {cc : Nat → Nat → Int32} {d : Nat} (hd : 0 ≤ d) {x0 : Int32} {x1 : Int32} {v2 : Value} {s : aS} (hl : Ly tt cc s) {o : Int32} (h : dm262  x0 x1 = some o) : Q f sio tt cc d 262 0 [some (.int x0), some (.int x1), some (v2)] [] s (.inl (some (.int o)), s) := by
  unfold dm262 at h
  refine Q.run zm262 1 (i' := 1) (ls' := [some (.int x0), some (.int x1), some (v2)]) (st' := [.int x0]) rfl ?_
  by_cases hc1 : x0 < 0
  · rw [if_pos hc1] at h
    refine Q.map (A.zT (gI_of zm262 (e := (1, 3, .ifCond .lt 8, [5])) rfl) (decide_eq_true hc1)) ?_
    exact dt262_5 hd hl  h
  · rw [if_neg hc1] at h
    refine Q.map (A.zF (gI_of zm262 (e := (1, 3, .ifCond .lt 8, [5])) rfl) (fun q => hc1 (of_decide_eq_true q))) ?_
    refine Q.run zm262 2 (i' := 4) (ls' := [some (.int x0), some (.int x1), some (v2)]) (st' := [.int x1, .int x0]) rfl ?_
    by_cases hc2 : x0 < x1
    · rw [if_pos hc2] at h
      refine Q.map (A.bT (gI_of zm262 (e := (6, 3, .if_icmp .lt 10, [10])) rfl) (decide_eq_true hc2)) ?_
      refine Q.run zm262 1 (i' := 11) (ls' := [some (.int x0), some (.int x1), some (v2)]) (st' := [.int x0]) rfl ?_
      cases h
      exact Q.ret (A.ri zm262 (show zM262.2.2.2.2.2[11]? = some (17, 1, .ireturn, []) from rfl) rfl rfl) hl
    · rw [if_neg hc2] at h
      refine Q.map (A.bF (gI_of zm262 (e := (6, 3, .if_icmp .lt 10, [10])) rfl) (fun q => hc2 (of_decide_eq_true q))) ?_
      exact dt262_5 hd hl  h
/-! 261 java/lang/String.checkIndex(II)V -/
set_option maxRecDepth 100000 in
theorem zm261 : zP[261]? = some zM261 := rfl
def dm261 (x0 : Int32) (x1 : Int32) (s : aS) : Option (aS) :=
  bu (dm262 x0 x1) fun r3 =>
  some s
set_option maxRecDepth 100000 in
theorem dt261 {f : Nat} {sio : Bool} {tt : Nat} {cc : Nat → Nat → Int32} {d : Nat} (hd : 1 ≤ d) {x0 : Int32} {x1 : Int32} {s : aS} (hl : Ly tt cc s) {o : aS} (h : dm261  x0 x1 s = some o) : Q f sio tt cc d 261 0 [some (.int x0), some (.int x1)] [] s (.inl none, o) := by
  unfold dm261 at h
  obtain ⟨d, rfl⟩ : ∃ e, d = e + 1 := ⟨d - 1, by omega⟩
  refine Q.run zm261 3 (i' := 3) (ls' := [some (.int x0), some (.int x1)]) (st' := [(sv sio), .int x1, .int x0]) rfl ?_
  obtain ⟨r3, hc2, h⟩ := bu_so h
  have hq1 : Q f sio tt cc d 262 0 [some (.int x0), some (.int x1), some ((sv sio))] [] s (.inl (some (.int r3)), s) := dt262 (by omega) hl  hc2
  refine Q.callI (gC_st zm261 (show zM261.2.2.2.2.2[3]? = some (5, 3, .invokestatic 1059, [0, 262, 3]) from rfl) zm262 (show aC 3 [(sv sio), .int x1, .int x0] 3 = some ([some (.int x0), some (.int x1), some ((sv sio))], []) from by cases sio <;> rfl)) hq1 ?_
  refine Q.run zm261 1 (i' := 5) (ls' := [some (.int x0), some (.int x1)]) (st' := []) rfl ?_
  cases h
  exact Q.ret (A.rv zm261 (show zM261.2.2.2.2.2[5]? = some (9, 1, .return_, []) from rfl) rfl) hl
/-! 260 java/lang/StringLatin1.charAt([BI)C -/
set_option maxRecDepth 100000 in
theorem zm260 : zP[260]? = some zM260 := rfl
def dm260 (b0 : Nat) (x1 : Int32) (s : aS) : Option (Int32 × aS) :=
  bu (dm261 x1 (Int32.ofNat (sT s b0).2) s) fun s3 =>
  if aB x1 (sT s3 b0).2 then
    if 0 ≤ ((((sI s3 b0 (jN x1)) &&& 255).toUInt32 % 65536).toInt32) ∧ ((((sI s3 b0 (jN x1)) &&& 255).toUInt32 % 65536).toInt32) ≤ 65535 then
      some ((((sI s3 b0 (jN x1)) &&& 255).toUInt32 % 65536).toInt32, s3)
    else none
  else none
set_option maxRecDepth 100000 in
theorem dt260 {f : Nat} {sio : Bool} {tt : Nat} {cc : Nat → Nat → Int32} {d : Nat} (hd : 2 ≤ d) {b0 : Nat} {x1 : Int32} {s : aS} (hl : Ly tt cc s) (hk_b0 : aK s b0 101) {o : Int32 × aS} (h : dm260  b0 x1 s = some o) : Q f sio tt cc d 260 0 [some (.ref b0), some (.int x1)] [] s (.inl (some (.int o.1)), o.2) := by
  unfold dm260 at h
  obtain ⟨d, rfl⟩ : ∃ e, d = e + 1 := ⟨d - 1, by omega⟩
  refine Q.run zm260 2 (i' := 2) (ls' := [some (.ref b0), some (.int x1)]) (st' := [.ref b0, .int x1]) rfl ?_
  refine Q.map (A.al (gI_of zm260 (e := (2, 1, .arraylength, [])) rfl) hk_b0.1 (pr2 hk_b0.2) (by decide)) ?_
  obtain ⟨s3, hc2, h⟩ := bu_so h
  have hq1 : Q f sio tt cc d 261 0 [some (.int x1), some (.int (Int32.ofNat (sT s b0).2))] [] s (.inl none, s3) := dt261 (by omega) hl  hc2
  refine Q.callV (gC_st zm260 (show zM260.2.2.2.2.2[3]? = some (3, 3, .invokestatic 9, [0, 261, 2]) from rfl) zm261 (show aC 2 [.int (Int32.ofNat (sT s b0).2), .int x1] 2 = some ([some (.int x1), some (.int (Int32.ofNat (sT s b0).2))], []) from rfl)) hq1 ?_
  have hr4 : aK s3 b0 101 := hq1.2.1.k hk_b0
  refine Q.run zm260 2 (i' := 6) (ls' := [some (.ref b0), some (.int x1)]) (st' := [.int x1, .ref b0]) rfl ?_
  obtain ⟨hc5, h⟩ := ite_so h
  refine Q.map (A.ba (gI_of zm260 (e := (8, 1, .baload, [])) rfl) hr4.1 (pr2 hr4.2) (by decide) hc5) ?_
  refine Q.run zm260 3 (i' := 10) (ls' := [some (.ref b0), some (.int x1)]) (st' := [.int ((((sI s3 b0 (jN x1)) &&& 255).toUInt32 % 65536).toInt32)]) rfl ?_
  obtain ⟨hc6, h⟩ := ite_so h
  cases h
  exact Q.ret (A.ri zm260 (show zM260.2.2.2.2.2[10]? = some (14, 1, .ireturn, []) from rfl) rfl (fit4 hc6)) hq1.1
/-! 259 java/lang/String.charAt(I)C -/
set_option maxRecDepth 100000 in
theorem zm259 : zP[259]? = some zM259 := rfl
def dm259 (b0 : Nat) (x1 : Int32) (s : aS) : Option (Int32 × aS) :=
  bu (dm253 b0 s) fun r3 =>
  if r3 = 0 then
    none
  else
    bv (dm260 (b0 + 1) x1 s) fun r8 s7 =>
    if 0 ≤ r8 ∧ r8 ≤ 65535 then
      some (r8, s7)
    else none
set_option maxRecDepth 100000 in
theorem dt259 {f : Nat} {sio : Bool} {tt : Nat} {cc : Nat → Nat → Int32} {d : Nat} (hd : 3 ≤ d) {b0 : Nat} {x1 : Int32} {s : aS} (hl : Ly tt cc s) (hk_b0 : aK s b0 70) {o : Int32 × aS} (h : dm259  b0 x1 s = some o) : Q f sio tt cc d 259 0 [some (.ref b0), some (.int x1)] [] s (.inl (some (.int o.1)), o.2) := by
  unfold dm259 at h
  obtain ⟨d, rfl⟩ : ∃ e, d = e + 1 := ⟨d - 1, by omega⟩
  refine Q.run zm259 1 (i' := 1) (ls' := [some (.ref b0), some (.int x1)]) (st' := [.ref b0]) rfl ?_
  obtain ⟨r3, hc2, h⟩ := bu_so h
  have hq1 : Q f sio tt cc d 253 0 [some (.ref b0)] [] s (.inl (some (.int r3)), s) := dt253 (by omega) hl hk_b0 hc2
  refine Q.callI (gC_vi zm259 (show zM259.2.2.2.2.2[1]? = some (1, 3, .invokevirtual 492, [0, 253, 0, 70]) from rfl) zm253 hk_b0.1 (hl.tx hk_b0).1 rfl (show aCr 0 b0 [.ref b0] 1 = some ([some (.ref b0)], []) from rfl)) hq1 ?_
  by_cases hc4 : r3 = 0
  · rw [if_pos hc4] at h
    refine Q.map (A.zT (gI_of zm259 (e := (4, 3, .ifCond .eq 12, [8])) rfl) (decide_eq_true hc4)) ?_
    refine Q.run zm259 1 (i' := 9) (ls' := [some (.ref b0), some (.int x1)]) (st' := [.ref b0]) rfl ?_
    refine Q.map (A.gf (gI_of zm259 (e := (17, 3, .getfield 9, [70, 0])) rfl) hk_b0.1 (hl.tx hk_b0).1 (by decide) (hl.tx hk_b0).2.1) ?_
    refine Q.run zm259 1 (i' := 11) (ls' := [some (.ref b0), some (.int x1)]) (st' := [.int x1, .ref (b0 + 1)]) rfl ?_
    cases h
  · rw [if_neg hc4] at h
    refine Q.map (A.zF (gI_of zm259 (e := (4, 3, .ifCond .eq 12, [8])) rfl) (fun q => hc4 (of_decide_eq_true q))) ?_
    refine Q.run zm259 1 (i' := 4) (ls' := [some (.ref b0), some (.int x1)]) (st' := [.ref b0]) rfl ?_
    refine Q.map (A.gf (gI_of zm259 (e := (8, 3, .getfield 9, [70, 0])) rfl) hk_b0.1 (hl.tx hk_b0).1 (by decide) (hl.tx hk_b0).2.1) ?_
    refine Q.run zm259 1 (i' := 6) (ls' := [some (.ref b0), some (.int x1)]) (st' := [.int x1, .ref (b0 + 1)]) rfl ?_
    obtain ⟨r8, s7, hc6, h⟩ := bv_so h
    have hq5 : Q f sio tt cc d 260 0 [some (.ref (b0 + 1)), some (.int x1)] [] s (.inl (some (.int r8)), s7) := dt260 (by omega) hl ⟨(hl.tx hk_b0).2.2.1, by rw [(pr2 (hl.tx hk_b0).2.2.2.1)]⟩ hc6
    refine Q.callI (gC_st zm259 (show zM259.2.2.2.2.2[6]? = some (12, 3, .invokestatic 495, [0, 260, 2]) from rfl) zm260 (show aC 2 [.int x1, .ref (b0 + 1)] 2 = some ([some (.ref (b0 + 1)), some (.int x1)], []) from rfl)) hq5 ?_
    have hr9 : aK s7 b0 70 := hq5.2.1.k hk_b0
    obtain ⟨hc10, h⟩ := ite_so h
    cases h
    exact Q.ret (A.ri zm259 (show zM259.2.2.2.2.2[7]? = some (15, 1, .ireturn, []) from rfl) rfl (fit4 hc10)) hq5.1
/-! 49 FormulaTrees$Letters.spells(Ljava/lang/String;II)Z -/
set_option maxRecDepth 100000 in
theorem zm49 : zP[49]? = some zM49 := rfl
def dm49_28 (k10 : Nat → Nat → Int32 → Int32 → Int32 → Int32 → aS → Option (Int32 × aS)) (b0 : Nat) (b1 : Nat) (x2 : Int32) (x3 : Int32) (x5 : Int32) (y0 : Int32) (s : aS) : Option (Int32 × aS) :=
  k10 b0 b1 x2 x3 y0 (x5 + 1) s
set_option maxRecDepth 100000 in
theorem dt49_28 {sio : Bool} {tt : Nat} {cc : Nat → Nat → Int32} {d : Nat} (hd : 4 ≤ d) {k10 : Nat → Nat → Int32 → Int32 → Int32 → Int32 → aS → Option (Int32 × aS)} (hk10 : ∀ {b0 : Nat} {b1 : Nat} {x2 : Int32} {x3 : Int32} {x4 : Int32} {x5 : Int32} {s : aS}, Ly tt cc s → aK s b0 1 → aK s b1 70 → ∀ {o : Int32 × aS}, k10 b0 b1 x2 x3 x4 x5 s = some o → Q 1 sio tt cc d 49 10 [some (.ref b0), some (.ref b1), some (.int x2), some (.int x3), some (.int x4), some (.int x5)] [] s (.inl (some (.int o.1)), o.2)) {b0 : Nat} {b1 : Nat} {x2 : Int32} {x3 : Int32} {x5 : Int32} {y0 : Int32} {x4 : Int32} {s : aS} (hl : Ly tt cc s) (hk_b0 : aK s b0 1) (hk_b1 : aK s b1 70) {o : Int32 × aS} (h : dm49_28 k10 b0 b1 x2 x3 x5 y0 s = some o) : Q 1 sio tt cc d 49 28 [some (.ref b0), some (.ref b1), some (.int x2), some (.int x3), some (.int x4), some (.int x5)] [.int y0] s (.inl (some (.int o.1)), o.2) := by
  unfold dm49_28 at h
  obtain ⟨d, rfl⟩ : ∃ e, d = e + 1 := ⟨d - 1, by omega⟩
  refine Q.run zm49 3 (i' := 10) (ls' := [some (.ref b0), some (.ref b1), some (.int x2), some (.int x3), some (.int y0), some (.int (x5 + 1))]) (st' := []) rfl ?_
  exact hk10 hl hk_b0 hk_b1 h
def dm49_10 : Nat → Nat → Nat → Int32 → Int32 → Int32 → Int32 → aS → Option (Int32 × aS)
  | 0, _, _, _, _, _, _, _ => none
  | n + 1, b0, b1, x2, x3, x4, x5, s =>
    if x2 ≤ x5 then
      if x4 = 0 ∨ x4 = 1 then
        some (x4, s)
      else none
    else
      if x4 = 0 then
        if x4 = 0 ∨ x4 = 1 then
          some (x4, s)
        else none
      else
        bu (dm34 b0 (x3 + x5) s) fun r7 =>
        bu (dm35 r7) fun r10 =>
        bv (dm259 b1 x5 s) fun r14 s13 =>
        if r10 = r14 then
          dm49_28 (dm49_10 n) b0 b1 x2 x3 x5 1 s13
        else
          dm49_28 (dm49_10 n) b0 b1 x2 x3 x5 0 s13
set_option maxRecDepth 100000 in
theorem dt49_10 {sio : Bool} {tt : Nat} {cc : Nat → Nat → Int32} {d : Nat} (hd : 4 ≤ d) : ∀ (n : Nat) {b0 : Nat} {b1 : Nat} {x2 : Int32} {x3 : Int32} {x4 : Int32} {x5 : Int32} {s : aS} (_ : Ly tt cc s) (_ : aK s b0 1) (_ : aK s b1 70) {o : Int32 × aS} (_ : dm49_10  n b0 b1 x2 x3 x4 x5 s = some o), Q 1 sio tt cc d 49 10 [some (.ref b0), some (.ref b1), some (.int x2), some (.int x3), some (.int x4), some (.int x5)] [] s (.inl (some (.int o.1)), o.2) := by
  obtain ⟨d, rfl⟩ : ∃ e, d = e + 1 := ⟨d - 1, by omega⟩
  intro n
  induction n with
  | zero => intro b0 b1 x2 x3 x4 x5 s hl hk_b0 hk_b1 o h; rw [dm49_10] at h; cases h
  | succ n ih =>
    intro b0 b1 x2 x3 x4 x5 s hl hk_b0 hk_b1 o h
    rw [dm49_10] at h
    refine Q.run zm49 2 (i' := 12) (ls' := [some (.ref b0), some (.ref b1), some (.int x2), some (.int x3), some (.int x4), some (.int x5)]) (st' := [.int x2, .int x5]) rfl ?_
    by_cases hc1 : x2 ≤ x5
    · rw [if_pos hc1] at h
      refine Q.map (A.bT (gI_of zm49 (e := (21, 3, .if_icmp .ge 41, [31])) rfl) (decide_eq_true hc1)) ?_
      refine Q.run zm49 1 (i' := 32) (ls' := [some (.ref b0), some (.ref b1), some (.int x2), some (.int x3), some (.int x4), some (.int x5)]) (st' := [.int x4]) rfl ?_
      obtain ⟨hc2, h⟩ := ite_so h
      cases h
      exact Q.ret (A.ri zm49 (show zM49.2.2.2.2.2[32]? = some (64, 1, .ireturn, []) from rfl) rfl (fit1 hc2)) hl
    · rw [if_neg hc1] at h
      refine Q.map (A.bF (gI_of zm49 (e := (21, 3, .if_icmp .ge 41, [31])) rfl) (fun q => hc1 (of_decide_eq_true q))) ?_
      refine Q.run zm49 1 (i' := 14) (ls' := [some (.ref b0), some (.ref b1), some (.int x2), some (.int x3), some (.int x4), some (.int x5)]) (st' := [.int x4]) rfl ?_
      by_cases hc3 : x4 = 0
      · rw [if_pos hc3] at h
        refine Q.map (A.zT (gI_of zm49 (e := (26, 3, .ifCond .eq 36, [31])) rfl) (decide_eq_true hc3)) ?_
        refine Q.run zm49 1 (i' := 32) (ls' := [some (.ref b0), some (.ref b1), some (.int x2), some (.int x3), some (.int x4), some (.int x5)]) (st' := [.int x4]) rfl ?_
        obtain ⟨hc4, h⟩ := ite_so h
        cases h
        exact Q.ret (A.ri zm49 (show zM49.2.2.2.2.2[32]? = some (64, 1, .ireturn, []) from rfl) rfl (fit1 hc4)) hl
      · rw [if_neg hc3] at h
        refine Q.map (A.zF (gI_of zm49 (e := (26, 3, .ifCond .eq 36, [31])) rfl) (fun q => hc3 (of_decide_eq_true q))) ?_
        refine Q.run zm49 4 (i' := 19) (ls' := [some (.ref b0), some (.ref b1), some (.int x2), some (.int x3), some (.int x4), some (.int x5)]) (st' := [.int (x3 + x5), .ref b0]) rfl ?_
        obtain ⟨r7, hc6, h⟩ := bu_so h
        have hq5 : Q 1 sio tt cc d 34 0 [some (.ref b0), some (.int (x3 + x5))] [] s (.inl (some (.int r7)), s) := dt34 (by omega) hl hk_b0 hc6
        refine Q.callI (gC_vi zm49 (show zM49.2.2.2.2.2[19]? = some (34, 3, .invokevirtual 25, [0, 34, 1, 1]) from rfl) zm34 hk_b0.1 (hl.le hk_b0).1 rfl (show aCr 1 b0 [.int (x3 + x5), .ref b0] 2 = some ([some (.ref b0), some (.int (x3 + x5))], []) from rfl)) hq5 ?_
        obtain ⟨r10, hc9, h⟩ := bu_so h
        have hq8 : Q 1 sio tt cc d 35 0 [some (.int r7)] [] s (.inl (some (.int r10)), s) := dt35 (by omega) hl  hc9
        refine Q.callI (gC_st zm49 (show zM49.2.2.2.2.2[20]? = some (37, 3, .invokestatic 33, [0, 35, 1]) from rfl) zm35 (show aC 1 [.int r7] 1 = some ([some (.int r7)], []) from rfl)) hq8 ?_
        refine Q.run zm49 2 (i' := 23) (ls' := [some (.ref b0), some (.ref b1), some (.int x2), some (.int x3), some (.int x4), some (.int x5)]) (st' := [.int x5, .ref b1, .int r10]) rfl ?_
        obtain ⟨r14, s13, hc12, h⟩ := bv_so h
        have hq11 : Q 1 sio tt cc d 259 0 [some (.ref b1), some (.int x5)] [] s (.inl (some (.int r14)), s13) := dt259 (by omega) hl hk_b1 hc12
        refine Q.callI (gC_vi zm49 (show zM49.2.2.2.2.2[23]? = some (43, 3, .invokevirtual 41, [0, 259, 1, 70]) from rfl) zm259 hk_b1.1 (hl.tx hk_b1).1 rfl (show aCr 1 b1 [.int x5, .ref b1, .int r10] 2 = some ([some (.ref b1), some (.int x5)], [.int r10]) from rfl)) hq11 ?_
        have hr15 : aK s13 b0 1 := hq11.2.1.k hk_b0
        have hr16 : aK s13 b1 70 := hq11.2.1.k hk_b1
        by_cases hc17 : r10 = r14
        · rw [if_pos hc17] at h
          refine Q.map (A.bF (gI_of zm49 (e := (46, 3, .if_icmp .ne 7, [27])) rfl) (fun q => of_decide_eq_true q hc17)) ?_
          refine Q.run zm49 2 (i' := 28) (ls' := [some (.ref b0), some (.ref b1), some (.int x2), some (.int x3), some (.int x4), some (.int x5)]) (st' := [.int 1]) rfl ?_
          exact dt49_28 hd ih hq11.1 hr15 hr16 h
        · rw [if_neg hc17] at h
          refine Q.map (A.bT (gI_of zm49 (e := (46, 3, .if_icmp .ne 7, [27])) rfl) (decide_eq_true hc17)) ?_
          refine Q.run zm49 1 (i' := 28) (ls' := [some (.ref b0), some (.ref b1), some (.int x2), some (.int x3), some (.int x4), some (.int x5)]) (st' := [.int 0]) rfl ?_
          exact dt49_28 hd ih hq11.1 hr15 hr16 h
def dm49_7 (b0 : Nat) (b1 : Nat) (x2 : Int32) (x3 : Int32) (y0 : Int32) (s : aS) : Option (Int32 × aS) :=
  dm49_10 5000 b0 b1 x2 x3 y0 0 s
set_option maxRecDepth 100000 in
theorem dt49_7 {sio : Bool} {tt : Nat} {cc : Nat → Nat → Int32} {d : Nat} (hd : 4 ≤ d) {b0 : Nat} {b1 : Nat} {x2 : Int32} {x3 : Int32} {y0 : Int32} {s : aS} (hl : Ly tt cc s) (hk_b0 : aK s b0 1) (hk_b1 : aK s b1 70) {o : Int32 × aS} (h : dm49_7  b0 b1 x2 x3 y0 s = some o) : Q 1 sio tt cc d 49 7 [some (.ref b0), some (.ref b1), some (.int x2), some (.int x3), none, none] [.int y0] s (.inl (some (.int o.1)), o.2) := by
  unfold dm49_7 at h
  obtain ⟨d, rfl⟩ : ∃ e, d = e + 1 := ⟨d - 1, by omega⟩
  refine Q.run zm49 3 (i' := 10) (ls' := [some (.ref b0), some (.ref b1), some (.int x2), some (.int x3), some (.int y0), some (.int 0)]) (st' := []) rfl ?_
  exact dt49_10 hd _ hl hk_b0 hk_b1 h
def dm49 (b0 : Nat) (b1 : Nat) (x2 : Int32) (x3 : Int32) (s : aS) : Option (Int32 × aS) :=
  bu (dm254 b1 s) fun r3 =>
  if r3 < x2 then
    dm49_7 b0 b1 x2 x3 0 s
  else
    dm49_7 b0 b1 x2 x3 1 s
set_option maxRecDepth 100000 in
theorem dt49 {sio : Bool} {tt : Nat} {cc : Nat → Nat → Int32} {d : Nat} (hd : 4 ≤ d) {b0 : Nat} {b1 : Nat} {x2 : Int32} {x3 : Int32} {s : aS} (hl : Ly tt cc s) (hk_b0 : aK s b0 1) (hk_b1 : aK s b1 70) {o : Int32 × aS} (h : dm49  b0 b1 x2 x3 s = some o) : Q 1 sio tt cc d 49 0 [some (.ref b0), some (.ref b1), some (.int x2), some (.int x3), none, none] [] s (.inl (some (.int o.1)), o.2) := by
  unfold dm49 at h
  obtain ⟨d, rfl⟩ : ∃ e, d = e + 1 := ⟨d - 1, by omega⟩
  refine Q.run zm49 2 (i' := 2) (ls' := [some (.ref b0), some (.ref b1), some (.int x2), some (.int x3), none, none]) (st' := [.ref b1, .int x2]) rfl ?_
  obtain ⟨r3, hc2, h⟩ := bu_so h
  have hq1 : Q 1 sio tt cc d 254 0 [some (.ref b1)] [] s (.inl (some (.int r3)), s) := dt254 (by omega) hl hk_b1 hc2
  refine Q.callI (gC_vi zm49 (show zM49.2.2.2.2.2[2]? = some (2, 3, .invokevirtual 38, [0, 254, 0, 70]) from rfl) zm254 hk_b1.1 (hl.tx hk_b1).1 rfl (show aCr 0 b1 [.ref b1, .int x2] 1 = some ([some (.ref b1)], [.int x2]) from rfl)) hq1 ?_
  by_cases hc4 : r3 < x2
  · rw [if_pos hc4] at h
    refine Q.map (A.bT (gI_of zm49 (e := (5, 3, .if_icmp .gt 7, [6])) rfl) (decide_eq_true hc4)) ?_
    refine Q.run zm49 1 (i' := 7) (ls' := [some (.ref b0), some (.ref b1), some (.int x2), some (.int x3), none, none]) (st' := [.int 0]) rfl ?_
    exact dt49_7 hd hl hk_b0 hk_b1 h
  · rw [if_neg hc4] at h
    refine Q.map (A.bF (gI_of zm49 (e := (5, 3, .if_icmp .gt 7, [6])) rfl) (fun q => hc4 (of_decide_eq_true q))) ?_
    refine Q.run zm49 2 (i' := 7) (ls' := [some (.ref b0), some (.ref b1), some (.int x2), some (.int x3), none, none]) (st' := [.int 1]) rfl ?_
    exact dt49_7 hd hl hk_b0 hk_b1 h
/-! 48 FormulaTrees$Letters.truthIn(II)I -/
set_option maxRecDepth 100000 in
theorem zm48 : zP[48]? = some zM48 := rfl
def dm48_13 (b0 : Nat) (x1 : Int32) (x2 : Int32) (s : aS) : Option (Int32 × aS) :=
  if (x2 - x1) = 5 then
    bv (dm49 b0 13 5 x1 s) fun r5 s4 =>
    if r5 = 0 then
      some ((-1), s4)
    else
      some (0, s4)
  else
    some ((-1), s)
set_option maxRecDepth 100000 in
theorem dt48_13 {sio : Bool} {tt : Nat} {cc : Nat → Nat → Int32} {d : Nat} (hd : 5 ≤ d) {b0 : Nat} {x1 : Int32} {x2 : Int32} {s : aS} (hl : Ly tt cc s) (hk_b0 : aK s b0 1) {o : Int32 × aS} (h : dm48_13  b0 x1 x2 s = some o) : Q 1 sio tt cc d 48 13 [some (.ref b0), some (.int x1), some (.int x2)] [] s (.inl (some (.int o.1)), o.2) := by
  unfold dm48_13 at h
  obtain ⟨d, rfl⟩ : ∃ e, d = e + 1 := ⟨d - 1, by omega⟩
  refine Q.run zm48 4 (i' := 17) (ls' := [some (.ref b0), some (.int x1), some (.int x2)]) (st' := [.int 5, .int (x2 - x1)]) rfl ?_
  by_cases hc1 : (x2 - x1) = 5
  · rw [if_pos hc1] at h
    refine Q.map (A.bF (gI_of zm48 (e := (24, 3, .if_icmp .ne 18, [26])) rfl) (fun q => of_decide_eq_true q hc1)) ?_
    refine Q.run zm48 4 (i' := 22) (ls' := [some (.ref b0), some (.int x1), some (.int x2)]) (st' := [.int x1, .int 5, .ref 13, .ref b0]) rfl ?_
    obtain ⟨r5, s4, hc3, h⟩ := bv_so h
    have hq2 : Q 1 sio tt cc d 49 0 [some (.ref b0), some (.ref 13), some (.int 5), some (.int x1), none, none] [] s (.inl (some (.int r5)), s4) := dt49 (by omega) hl hk_b0 (hl.lowK (a := 13) (c := 70) (by decide) (by decide)) hc3
    refine Q.callI (gC_vi zm48 (show zM48.2.2.2.2.2[22]? = some (32, 3, .invokevirtual 47, [0, 49, 3, 1]) from rfl) zm49 hk_b0.1 (hl.le hk_b0).1 rfl (show aCr 3 b0 [.int x1, .int 5, .ref 13, .ref b0] 6 = some ([some (.ref b0), some (.ref 13), some (.int 5), some (.int x1), none, none], []) from rfl)) hq2 ?_
    have hr6 : aK s4 b0 1 := hq2.2.1.k hk_b0
    by_cases hc7 : r5 = 0
    · rw [if_pos hc7] at h
      refine Q.map (A.zT (gI_of zm48 (e := (35, 3, .ifCond .eq 7, [26])) rfl) (decide_eq_true hc7)) ?_
      refine Q.run zm48 1 (i' := 27) (ls' := [some (.ref b0), some (.int x1), some (.int x2)]) (st' := [.int (-1)]) rfl ?_
      cases h
      exact Q.ret (A.ri zm48 (show zM48.2.2.2.2.2[27]? = some (43, 1, .ireturn, []) from rfl) rfl rfl) hq2.1
    · rw [if_neg hc7] at h
      refine Q.map (A.zF (gI_of zm48 (e := (35, 3, .ifCond .eq 7, [26])) rfl) (fun q => hc7 (of_decide_eq_true q))) ?_
      refine Q.run zm48 2 (i' := 27) (ls' := [some (.ref b0), some (.int x1), some (.int x2)]) (st' := [.int 0]) rfl ?_
      cases h
      exact Q.ret (A.ri zm48 (show zM48.2.2.2.2.2[27]? = some (43, 1, .ireturn, []) from rfl) rfl rfl) hq2.1
  · rw [if_neg hc1] at h
    refine Q.map (A.bT (gI_of zm48 (e := (24, 3, .if_icmp .ne 18, [26])) rfl) (decide_eq_true hc1)) ?_
    refine Q.run zm48 1 (i' := 27) (ls' := [some (.ref b0), some (.int x1), some (.int x2)]) (st' := [.int (-1)]) rfl ?_
    cases h
    exact Q.ret (A.ri zm48 (show zM48.2.2.2.2.2[27]? = some (43, 1, .ireturn, []) from rfl) rfl rfl) hl
def dm48 (b0 : Nat) (x1 : Int32) (x2 : Int32) (s : aS) : Option (Int32 × aS) :=
  if (x2 - x1) = 4 then
    bv (dm49 b0 11 4 x1 s) fun r5 s4 =>
    if r5 = 0 then
      dm48_13 b0 x1 x2 s4
    else
      some (1, s4)
  else
    dm48_13 b0 x1 x2 s
set_option maxRecDepth 100000 in
theorem dt48 {sio : Bool} {tt : Nat} {cc : Nat → Nat → Int32} {d : Nat} (hd : 5 ≤ d) {b0 : Nat} {x1 : Int32} {x2 : Int32} {s : aS} (hl : Ly tt cc s) (hk_b0 : aK s b0 1) {o : Int32 × aS} (h : dm48  b0 x1 x2 s = some o) : Q 1 sio tt cc d 48 0 [some (.ref b0), some (.int x1), some (.int x2)] [] s (.inl (some (.int o.1)), o.2) := by
  unfold dm48 at h
  obtain ⟨d, rfl⟩ : ∃ e, d = e + 1 := ⟨d - 1, by omega⟩
  refine Q.run zm48 4 (i' := 4) (ls' := [some (.ref b0), some (.int x1), some (.int x2)]) (st' := [.int 4, .int (x2 - x1)]) rfl ?_
  by_cases hc1 : (x2 - x1) = 4
  · rw [if_pos hc1] at h
    refine Q.map (A.bF (gI_of zm48 (e := (4, 3, .if_icmp .ne 16, [13])) rfl) (fun q => of_decide_eq_true q hc1)) ?_
    refine Q.run zm48 4 (i' := 9) (ls' := [some (.ref b0), some (.int x1), some (.int x2)]) (st' := [.int x1, .int 4, .ref 11, .ref b0]) rfl ?_
    obtain ⟨r5, s4, hc3, h⟩ := bv_so h
    have hq2 : Q 1 sio tt cc d 49 0 [some (.ref b0), some (.ref 11), some (.int 4), some (.int x1), none, none] [] s (.inl (some (.int r5)), s4) := dt49 (by omega) hl hk_b0 (hl.lowK (a := 11) (c := 70) (by decide) (by decide)) hc3
    refine Q.callI (gC_vi zm48 (show zM48.2.2.2.2.2[9]? = some (12, 3, .invokevirtual 47, [0, 49, 3, 1]) from rfl) zm49 hk_b0.1 (hl.le hk_b0).1 rfl (show aCr 3 b0 [.int x1, .int 4, .ref 11, .ref b0] 6 = some ([some (.ref b0), some (.ref 11), some (.int 4), some (.int x1), none, none], []) from rfl)) hq2 ?_
    have hr6 : aK s4 b0 1 := hq2.2.1.k hk_b0
    by_cases hc7 : r5 = 0
    · rw [if_pos hc7] at h
      refine Q.map (A.zT (gI_of zm48 (e := (15, 3, .ifCond .eq 5, [13])) rfl) (decide_eq_true hc7)) ?_
      exact dt48_13 hd hq2.1 hr6 h
    · rw [if_neg hc7] at h
      refine Q.map (A.zF (gI_of zm48 (e := (15, 3, .ifCond .eq 5, [13])) rfl) (fun q => hc7 (of_decide_eq_true q))) ?_
      refine Q.run zm48 1 (i' := 12) (ls' := [some (.ref b0), some (.int x1), some (.int x2)]) (st' := [.int 1]) rfl ?_
      cases h
      exact Q.ret (A.ri zm48 (show zM48.2.2.2.2.2[12]? = some (19, 1, .ireturn, []) from rfl) rfl rfl) hq2.1
  · rw [if_neg hc1] at h
    refine Q.map (A.bT (gI_of zm48 (e := (4, 3, .if_icmp .ne 16, [13])) rfl) (decide_eq_true hc1)) ?_
    exact dt48_13 hd hl hk_b0 h
end
section
/-! 50 FormulaTrees$Sheets.looksLikeCell(LFormulaTrees$Letters;)Z -/
set_option maxRecDepth 100000 in
theorem zm50 : zP[50]? = some zM50 := rfl
def dm50_26 (b0 : Nat) (x1 : Int32) (x2 : Int32) (s : aS) : Option (Int32) :=
  if x1 < 1 then
    some 0
  else
    if 3 < x1 then
      some 0
    else
      if x2 ≤ x1 then
        some 0
      else
        bu (dm28 b0 s) fun r6 =>
        if x2 = r6 then
          some 1
        else
          some 0
set_option maxRecDepth 100000 in
theorem dt50_26 {sio : Bool} {tt : Nat} {cc : Nat → Nat → Int32} {d : Nat} (hd : 1 ≤ d) {b0 : Nat} {x1 : Int32} {x2 : Int32} {s : aS} (hl : Ly tt cc s) (hk_b0 : aK s b0 1) {o : Int32} (h : dm50_26  b0 x1 x2 s = some o) : Q 1 sio tt cc d 50 26 [some (.ref b0), some (.int x1), some (.int x2)] [] s (.inl (some (.int o)), s) := by
  unfold dm50_26 at h
  obtain ⟨d, rfl⟩ : ∃ e, d = e + 1 := ⟨d - 1, by omega⟩
  refine Q.run zm50 2 (i' := 28) (ls' := [some (.ref b0), some (.int x1), some (.int x2)]) (st' := [.int 1, .int x1]) rfl ?_
  by_cases hc1 : x1 < 1
  · rw [if_pos hc1] at h
    refine Q.map (A.bT (gI_of zm50 (e := (56, 3, .if_icmp .lt 25, [41])) rfl) (decide_eq_true hc1)) ?_
    refine Q.run zm50 1 (i' := 42) (ls' := [some (.ref b0), some (.int x1), some (.int x2)]) (st' := [.int 0]) rfl ?_
    cases h
    exact Q.ret (A.ri zm50 (show zM50.2.2.2.2.2[42]? = some (82, 1, .ireturn, []) from rfl) rfl rfl) hl
  · rw [if_neg hc1] at h
    refine Q.map (A.bF (gI_of zm50 (e := (56, 3, .if_icmp .lt 25, [41])) rfl) (fun q => hc1 (of_decide_eq_true q))) ?_
    refine Q.run zm50 2 (i' := 31) (ls' := [some (.ref b0), some (.int x1), some (.int x2)]) (st' := [.int 3, .int x1]) rfl ?_
    by_cases hc2 : 3 < x1
    · rw [if_pos hc2] at h
      refine Q.map (A.bT (gI_of zm50 (e := (61, 3, .if_icmp .gt 20, [41])) rfl) (decide_eq_true hc2)) ?_
      refine Q.run zm50 1 (i' := 42) (ls' := [some (.ref b0), some (.int x1), some (.int x2)]) (st' := [.int 0]) rfl ?_
      cases h
      exact Q.ret (A.ri zm50 (show zM50.2.2.2.2.2[42]? = some (82, 1, .ireturn, []) from rfl) rfl rfl) hl
    · rw [if_neg hc2] at h
      refine Q.map (A.bF (gI_of zm50 (e := (61, 3, .if_icmp .gt 20, [41])) rfl) (fun q => hc2 (of_decide_eq_true q))) ?_
      refine Q.run zm50 2 (i' := 34) (ls' := [some (.ref b0), some (.int x1), some (.int x2)]) (st' := [.int x1, .int x2]) rfl ?_
      by_cases hc3 : x2 ≤ x1
      · rw [if_pos hc3] at h
        refine Q.map (A.bT (gI_of zm50 (e := (66, 3, .if_icmp .le 15, [41])) rfl) (decide_eq_true hc3)) ?_
        refine Q.run zm50 1 (i' := 42) (ls' := [some (.ref b0), some (.int x1), some (.int x2)]) (st' := [.int 0]) rfl ?_
        cases h
        exact Q.ret (A.ri zm50 (show zM50.2.2.2.2.2[42]? = some (82, 1, .ireturn, []) from rfl) rfl rfl) hl
      · rw [if_neg hc3] at h
        refine Q.map (A.bF (gI_of zm50 (e := (66, 3, .if_icmp .le 15, [41])) rfl) (fun q => hc3 (of_decide_eq_true q))) ?_
        refine Q.run zm50 2 (i' := 37) (ls' := [some (.ref b0), some (.int x1), some (.int x2)]) (st' := [.ref b0, .int x2]) rfl ?_
        obtain ⟨r6, hc5, h⟩ := bu_so h
        have hq4 : Q 1 sio tt cc d 28 0 [some (.ref b0)] [] s (.inl (some (.int r6)), s) := dt28 (by omega) hl hk_b0 hc5
        refine Q.callI (gC_vi zm50 (show zM50.2.2.2.2.2[37]? = some (71, 3, .invokevirtual 47, [0, 28, 0, 1]) from rfl) zm28 hk_b0.1 (hl.le hk_b0).1 rfl (show aCr 0 b0 [.ref b0, .int x2] 1 = some ([some (.ref b0)], [.int x2]) from rfl)) hq4 ?_
        by_cases hc7 : x2 = r6
        · rw [if_pos hc7] at h
          refine Q.map (A.bF (gI_of zm50 (e := (74, 3, .if_icmp .ne 7, [41])) rfl) (fun q => of_decide_eq_true q hc7)) ?_
          refine Q.run zm50 2 (i' := 42) (ls' := [some (.ref b0), some (.int x1), some (.int x2)]) (st' := [.int 1]) rfl ?_
          cases h
          exact Q.ret (A.ri zm50 (show zM50.2.2.2.2.2[42]? = some (82, 1, .ireturn, []) from rfl) rfl rfl) hl
        · rw [if_neg hc7] at h
          refine Q.map (A.bT (gI_of zm50 (e := (74, 3, .if_icmp .ne 7, [41])) rfl) (decide_eq_true hc7)) ?_
          refine Q.run zm50 1 (i' := 42) (ls' := [some (.ref b0), some (.int x1), some (.int x2)]) (st' := [.int 0]) rfl ?_
          cases h
          exact Q.ret (A.ri zm50 (show zM50.2.2.2.2.2[42]? = some (82, 1, .ireturn, []) from rfl) rfl rfl) hl
def dm50_15 : Nat → Nat → Int32 → Int32 → aS → Option (Int32)
  | 0, _, _, _, _ => none
  | n + 1, b0, x1, x2, s =>
    bu (dm28 b0 s) fun r3 =>
    if r3 ≤ x2 then
      dm50_26 b0 x1 x2 s
    else
      bu (dm34 b0 x2 s) fun r7 =>
      bu (dm47 r7) fun r10 =>
      if r10 = 0 then
        dm50_26 b0 x1 x2 s
      else
        dm50_15 n b0 x1 (x2 + 1) s
set_option maxRecDepth 100000 in
theorem dt50_15 {sio : Bool} {tt : Nat} {cc : Nat → Nat → Int32} {d : Nat} (hd : 1 ≤ d) : ∀ (n : Nat) {b0 : Nat} {x1 : Int32} {x2 : Int32} {s : aS} (_ : Ly tt cc s) (_ : aK s b0 1) {o : Int32} (_ : dm50_15  n b0 x1 x2 s = some o), Q 1 sio tt cc d 50 15 [some (.ref b0), some (.int x1), some (.int x2)] [] s (.inl (some (.int o)), s) := by
  obtain ⟨d, rfl⟩ : ∃ e, d = e + 1 := ⟨d - 1, by omega⟩
  intro n
  induction n with
  | zero => intro b0 x1 x2 s hl hk_b0 o h; rw [dm50_15] at h; cases h
  | succ n ih =>
    intro b0 x1 x2 s hl hk_b0 o h
    rw [dm50_15] at h
    refine Q.run zm50 2 (i' := 17) (ls' := [some (.ref b0), some (.int x1), some (.int x2)]) (st' := [.ref b0, .int x2]) rfl ?_
    obtain ⟨r3, hc2, h⟩ := bu_so h
    have hq1 : Q 1 sio tt cc d 28 0 [some (.ref b0)] [] s (.inl (some (.int r3)), s) := dt28 (by omega) hl hk_b0 hc2
    refine Q.callI (gC_vi zm50 (show zM50.2.2.2.2.2[17]? = some (31, 3, .invokevirtual 47, [0, 28, 0, 1]) from rfl) zm28 hk_b0.1 (hl.le hk_b0).1 rfl (show aCr 0 b0 [.ref b0, .int x2] 1 = some ([some (.ref b0)], [.int x2]) from rfl)) hq1 ?_
    by_cases hc4 : r3 ≤ x2
    · rw [if_pos hc4] at h
      refine Q.map (A.bT (gI_of zm50 (e := (34, 3, .if_icmp .ge 20, [26])) rfl) (decide_eq_true hc4)) ?_
      exact dt50_26 hd hl hk_b0 h
    · rw [if_neg hc4] at h
      refine Q.map (A.bF (gI_of zm50 (e := (34, 3, .if_icmp .ge 20, [26])) rfl) (fun q => hc4 (of_decide_eq_true q))) ?_
      refine Q.run zm50 2 (i' := 21) (ls' := [some (.ref b0), some (.int x1), some (.int x2)]) (st' := [.int x2, .ref b0]) rfl ?_
      obtain ⟨r7, hc6, h⟩ := bu_so h
      have hq5 : Q 1 sio tt cc d 34 0 [some (.ref b0), some (.int x2)] [] s (.inl (some (.int r7)), s) := dt34 (by omega) hl hk_b0 hc6
      refine Q.callI (gC_vi zm50 (show zM50.2.2.2.2.2[21]? = some (39, 3, .invokevirtual 32, [0, 34, 1, 1]) from rfl) zm34 hk_b0.1 (hl.le hk_b0).1 rfl (show aCr 1 b0 [.int x2, .ref b0] 2 = some ([some (.ref b0), some (.int x2)], []) from rfl)) hq5 ?_
      obtain ⟨r10, hc9, h⟩ := bu_so h
      have hq8 : Q 1 sio tt cc d 47 0 [some (.int r7)] [] s (.inl (some (.int r10)), s) := dt47 (by omega) hl  hc9
      refine Q.callI (gC_st zm50 (show zM50.2.2.2.2.2[22]? = some (42, 3, .invokestatic 88, [0, 47, 1]) from rfl) zm47 (show aC 1 [.int r7] 1 = some ([some (.int r7)], []) from rfl)) hq8 ?_
      by_cases hc11 : r10 = 0
      · rw [if_pos hc11] at h
        refine Q.map (A.zT (gI_of zm50 (e := (45, 3, .ifCond .eq 9, [26])) rfl) (decide_eq_true hc11)) ?_
        exact dt50_26 hd hl hk_b0 h
      · rw [if_neg hc11] at h
        refine Q.map (A.zF (gI_of zm50 (e := (45, 3, .ifCond .eq 9, [26])) rfl) (fun q => hc11 (of_decide_eq_true q))) ?_
        refine Q.run zm50 2 (i' := 15) (ls' := [some (.ref b0), some (.int x1), some (.int (x2 + 1))]) (st' := []) rfl ?_
        exact ih hl hk_b0 h
def dm50_13 (b0 : Nat) (x1 : Int32) (s : aS) : Option (Int32) :=
  dm50_15 5000 b0 x1 x1 s
set_option maxRecDepth 100000 in
theorem dt50_13 {sio : Bool} {tt : Nat} {cc : Nat → Nat → Int32} {d : Nat} (hd : 1 ≤ d) {b0 : Nat} {x1 : Int32} {s : aS} (hl : Ly tt cc s) (hk_b0 : aK s b0 1) {o : Int32} (h : dm50_13  b0 x1 s = some o) : Q 1 sio tt cc d 50 13 [some (.ref b0), some (.int x1), none] [] s (.inl (some (.int o)), s) := by
  unfold dm50_13 at h
  obtain ⟨d, rfl⟩ : ∃ e, d = e + 1 := ⟨d - 1, by omega⟩
  refine Q.run zm50 2 (i' := 15) (ls' := [some (.ref b0), some (.int x1), some (.int x1)]) (st' := []) rfl ?_
  exact dt50_15 hd _ hl hk_b0 h
def dm50_2 : Nat → Nat → Int32 → aS → Option (Int32)
  | 0, _, _, _ => none
  | n + 1, b0, x1, s =>
    bu (dm28 b0 s) fun r3 =>
    if r3 ≤ x1 then
      dm50_13 b0 x1 s
    else
      bu (dm34 b0 x1 s) fun r7 =>
      bu (dm45 r7) fun r10 =>
      if r10 = 0 then
        dm50_13 b0 x1 s
      else
        dm50_2 n b0 (x1 + 1) s
set_option maxRecDepth 100000 in
theorem dt50_2 {sio : Bool} {tt : Nat} {cc : Nat → Nat → Int32} {d : Nat} (hd : 1 ≤ d) : ∀ (n : Nat) {b0 : Nat} {x1 : Int32} {s : aS} (_ : Ly tt cc s) (_ : aK s b0 1) {o : Int32} (_ : dm50_2  n b0 x1 s = some o), Q 1 sio tt cc d 50 2 [some (.ref b0), some (.int x1), none] [] s (.inl (some (.int o)), s) := by
  obtain ⟨d, rfl⟩ : ∃ e, d = e + 1 := ⟨d - 1, by omega⟩
  intro n
  induction n with
  | zero => intro b0 x1 s hl hk_b0 o h; rw [dm50_2] at h; cases h
  | succ n ih =>
    intro b0 x1 s hl hk_b0 o h
    rw [dm50_2] at h
    refine Q.run zm50 2 (i' := 4) (ls' := [some (.ref b0), some (.int x1), none]) (st' := [.ref b0, .int x1]) rfl ?_
    obtain ⟨r3, hc2, h⟩ := bu_so h
    have hq1 : Q 1 sio tt cc d 28 0 [some (.ref b0)] [] s (.inl (some (.int r3)), s) := dt28 (by omega) hl hk_b0 hc2
    refine Q.callI (gC_vi zm50 (show zM50.2.2.2.2.2[4]? = some (4, 3, .invokevirtual 47, [0, 28, 0, 1]) from rfl) zm28 hk_b0.1 (hl.le hk_b0).1 rfl (show aCr 0 b0 [.ref b0, .int x1] 1 = some ([some (.ref b0)], [.int x1]) from rfl)) hq1 ?_
    by_cases hc4 : r3 ≤ x1
    · rw [if_pos hc4] at h
      refine Q.map (A.bT (gI_of zm50 (e := (7, 3, .if_icmp .ge 20, [13])) rfl) (decide_eq_true hc4)) ?_
      exact dt50_13 hd hl hk_b0 h
    · rw [if_neg hc4] at h
      refine Q.map (A.bF (gI_of zm50 (e := (7, 3, .if_icmp .ge 20, [13])) rfl) (fun q => hc4 (of_decide_eq_true q))) ?_
      refine Q.run zm50 2 (i' := 8) (ls' := [some (.ref b0), some (.int x1), none]) (st' := [.int x1, .ref b0]) rfl ?_
      obtain ⟨r7, hc6, h⟩ := bu_so h
      have hq5 : Q 1 sio tt cc d 34 0 [some (.ref b0), some (.int x1)] [] s (.inl (some (.int r7)), s) := dt34 (by omega) hl hk_b0 hc6
      refine Q.callI (gC_vi zm50 (show zM50.2.2.2.2.2[8]? = some (12, 3, .invokevirtual 32, [0, 34, 1, 1]) from rfl) zm34 hk_b0.1 (hl.le hk_b0).1 rfl (show aCr 1 b0 [.int x1, .ref b0] 2 = some ([some (.ref b0), some (.int x1)], []) from rfl)) hq5 ?_
      obtain ⟨r10, hc9, h⟩ := bu_so h
      have hq8 : Q 1 sio tt cc d 45 0 [some (.int r7)] [] s (.inl (some (.int r10)), s) := dt45 (by omega) hl  hc9
      refine Q.callI (gC_st zm50 (show zM50.2.2.2.2.2[9]? = some (15, 3, .invokestatic 83, [0, 45, 1]) from rfl) zm45 (show aC 1 [.int r7] 1 = some ([some (.int r7)], []) from rfl)) hq8 ?_
      by_cases hc11 : r10 = 0
      · rw [if_pos hc11] at h
        refine Q.map (A.zT (gI_of zm50 (e := (18, 3, .ifCond .eq 9, [13])) rfl) (decide_eq_true hc11)) ?_
        exact dt50_13 hd hl hk_b0 h
      · rw [if_neg hc11] at h
        refine Q.map (A.zF (gI_of zm50 (e := (18, 3, .ifCond .eq 9, [13])) rfl) (fun q => hc11 (of_decide_eq_true q))) ?_
        refine Q.run zm50 2 (i' := 2) (ls' := [some (.ref b0), some (.int (x1 + 1)), none]) (st' := []) rfl ?_
        exact ih hl hk_b0 h
def dm50 (b0 : Nat) (s : aS) : Option (Int32) :=
  dm50_2 5000 b0 0 s
set_option maxRecDepth 100000 in
theorem dt50 {sio : Bool} {tt : Nat} {cc : Nat → Nat → Int32} {d : Nat} (hd : 1 ≤ d) {b0 : Nat} {s : aS} (hl : Ly tt cc s) (hk_b0 : aK s b0 1) {o : Int32} (h : dm50  b0 s = some o) : Q 1 sio tt cc d 50 0 [some (.ref b0), none, none] [] s (.inl (some (.int o)), s) := by
  unfold dm50 at h
  obtain ⟨d, rfl⟩ : ∃ e, d = e + 1 := ⟨d - 1, by omega⟩
  refine Q.run zm50 2 (i' := 2) (ls' := [some (.ref b0), some (.int 0), none]) (st' := []) rfl ?_
  exact dt50_2 hd _ hl hk_b0 h
/-! 42 FormulaTrees$Sheets.needsQuotes(LFormulaTrees$Letters;)Z -/
set_option maxRecDepth 100000 in
theorem zm42 : zP[42]? = some zM42 := rfl
def dm42_23 (s : aS) : Option (Int32 × aS) :=
  some (1, s)
set_option maxRecDepth 100000 in
theorem dt42_23 {sio : Bool} {tt : Nat} {cc : Nat → Nat → Int32} {d : Nat} (hd : 6 ≤ d) {b0 : Nat} {x1 : Int32} {x2 : Int32} {s : aS} (hl : Ly tt cc s) {o : Int32 × aS} (h : dm42_23  s = some o) : Q 1 sio tt cc d 42 23 [some (.ref b0), some (.int x1), some (.int x2)] [] s (.inl (some (.int o.1)), o.2) := by
  unfold dm42_23 at h
  obtain ⟨d, rfl⟩ : ∃ e, d = e + 1 := ⟨d - 1, by omega⟩
  refine Q.run zm42 2 (i' := 26) (ls' := [some (.ref b0), some (.int x1), some (.int x2)]) (st' := [.int 1]) rfl ?_
  cases h
  exact Q.ret (A.ri zm42 (show zM42.2.2.2.2.2[26]? = some (46, 1, .ireturn, []) from rfl) rfl rfl) hl
def dm42_11 (b0 : Nat) (x1 : Int32) (y0 : Int32) (s : aS) : Option (Int32 × aS) :=
  if y0 = 0 then
    dm42_23 s
  else
    bv (dm48 b0 0 x1 s) fun r5 s4 =>
    if r5 = (-1) then
      bu (dm50 b0 s4) fun r10 =>
      if r10 = 0 then
        some (0, s4)
      else
        dm42_23 s4
    else
      dm42_23 s4
set_option maxRecDepth 100000 in
theorem dt42_11 {sio : Bool} {tt : Nat} {cc : Nat → Nat → Int32} {d : Nat} (hd : 6 ≤ d) {b0 : Nat} {x1 : Int32} {y0 : Int32} {s : aS} (hl : Ly tt cc s) (hk_b0 : aK s b0 1) {o : Int32 × aS} (h : dm42_11  b0 x1 y0 s = some o) : Q 1 sio tt cc d 42 11 [some (.ref b0), some (.int x1), none] [.int y0] s (.inl (some (.int o.1)), o.2) := by
  unfold dm42_11 at h
  obtain ⟨d, rfl⟩ : ∃ e, d = e + 1 := ⟨d - 1, by omega⟩
  refine Q.run zm42 2 (i' := 13) (ls' := [some (.ref b0), some (.int x1), some (.int y0)]) (st' := [.int y0]) rfl ?_
  by_cases hc1 : y0 = 0
  · rw [if_pos hc1] at h
    refine Q.map (A.zT (gI_of zm42 (e := (21, 3, .ifCond .eq 20, [23])) rfl) (decide_eq_true hc1)) ?_
    exact dt42_23 hd hl  h
  · rw [if_neg hc1] at h
    refine Q.map (A.zF (gI_of zm42 (e := (21, 3, .ifCond .eq 20, [23])) rfl) (fun q => hc1 (of_decide_eq_true q))) ?_
    refine Q.run zm42 3 (i' := 17) (ls' := [some (.ref b0), some (.int x1), some (.int y0)]) (st' := [.int x1, .int 0, .ref b0]) rfl ?_
    obtain ⟨r5, s4, hc3, h⟩ := bv_so h
    have hq2 : Q 1 sio tt cc d 48 0 [some (.ref b0), some (.int 0), some (.int x1)] [] s (.inl (some (.int r5)), s4) := dt48 (by omega) hl hk_b0 hc3
    refine Q.callI (gC_vi zm42 (show zM42.2.2.2.2.2[17]? = some (27, 3, .invokevirtual 76, [0, 48, 2, 1]) from rfl) zm48 hk_b0.1 (hl.le hk_b0).1 rfl (show aCr 2 b0 [.int x1, .int 0, .ref b0] 3 = some ([some (.ref b0), some (.int 0), some (.int x1)], []) from rfl)) hq2 ?_
    have hr6 : aK s4 b0 1 := hq2.2.1.k hk_b0
    refine Q.run zm42 1 (i' := 19) (ls' := [some (.ref b0), some (.int x1), some (.int y0)]) (st' := [.int (-1), .int r5]) rfl ?_
    by_cases hc7 : r5 = (-1)
    · rw [if_pos hc7] at h
      refine Q.map (A.bF (gI_of zm42 (e := (31, 3, .if_icmp .ne 10, [23])) rfl) (fun q => of_decide_eq_true q hc7)) ?_
      refine Q.run zm42 1 (i' := 21) (ls' := [some (.ref b0), some (.int x1), some (.int y0)]) (st' := [.ref b0]) rfl ?_
      obtain ⟨r10, hc9, h⟩ := bu_so h
      have hq8 : Q 1 sio tt cc d 50 0 [some (.ref b0), none, none] [] s4 (.inl (some (.int r10)), s4) := dt50 (by omega) hq2.1 hr6 hc9
      refine Q.callI (gC_st zm42 (show zM42.2.2.2.2.2[21]? = some (35, 3, .invokestatic 80, [0, 50, 1]) from rfl) zm50 (show aC 1 [.ref b0] 3 = some ([some (.ref b0), none, none], []) from rfl)) hq8 ?_
      by_cases hc11 : r10 = 0
      · rw [if_pos hc11] at h
        refine Q.map (A.zT (gI_of zm42 (e := (38, 3, .ifCond .eq 7, [25])) rfl) (decide_eq_true hc11)) ?_
        refine Q.run zm42 1 (i' := 26) (ls' := [some (.ref b0), some (.int x1), some (.int y0)]) (st' := [.int 0]) rfl ?_
        cases h
        exact Q.ret (A.ri zm42 (show zM42.2.2.2.2.2[26]? = some (46, 1, .ireturn, []) from rfl) rfl rfl) hq2.1
      · rw [if_neg hc11] at h
        refine Q.map (A.zF (gI_of zm42 (e := (38, 3, .ifCond .eq 7, [25])) rfl) (fun q => hc11 (of_decide_eq_true q))) ?_
        exact dt42_23 hd hq2.1  h
    · rw [if_neg hc7] at h
      refine Q.map (A.bT (gI_of zm42 (e := (31, 3, .if_icmp .ne 10, [23])) rfl) (decide_eq_true hc7)) ?_
      exact dt42_23 hd hq2.1  h
def dm42 (b0 : Nat) (s : aS) : Option (Int32 × aS) :=
  bu (dm28 b0 s) fun r3 =>
  bu (dm43 b0 0 s) fun r6 =>
  if r6 = r3 then
    dm42_11 b0 r3 1 s
  else
    dm42_11 b0 r3 0 s
set_option maxRecDepth 100000 in
theorem dt42 {sio : Bool} {tt : Nat} {cc : Nat → Nat → Int32} {d : Nat} (hd : 6 ≤ d) {b0 : Nat} {s : aS} (hl : Ly tt cc s) (hk_b0 : aK s b0 1) {o : Int32 × aS} (h : dm42  b0 s = some o) : Q 1 sio tt cc d 42 0 [some (.ref b0), none, none] [] s (.inl (some (.int o.1)), o.2) := by
  unfold dm42 at h
  obtain ⟨d, rfl⟩ : ∃ e, d = e + 1 := ⟨d - 1, by omega⟩
  refine Q.run zm42 1 (i' := 1) (ls' := [some (.ref b0), none, none]) (st' := [.ref b0]) rfl ?_
  obtain ⟨r3, hc2, h⟩ := bu_so h
  have hq1 : Q 1 sio tt cc d 28 0 [some (.ref b0)] [] s (.inl (some (.int r3)), s) := dt28 (by omega) hl hk_b0 hc2
  refine Q.callI (gC_vi zm42 (show zM42.2.2.2.2.2[1]? = some (1, 3, .invokevirtual 47, [0, 28, 0, 1]) from rfl) zm28 hk_b0.1 (hl.le hk_b0).1 rfl (show aCr 0 b0 [.ref b0] 1 = some ([some (.ref b0)], []) from rfl)) hq1 ?_
  refine Q.run zm42 3 (i' := 5) (ls' := [some (.ref b0), some (.int r3), none]) (st' := [.int 0, .ref b0]) rfl ?_
  obtain ⟨r6, hc5, h⟩ := bu_so h
  have hq4 : Q 1 sio tt cc d 43 0 [some (.ref b0), some (.int 0), none] [] s (.inl (some (.int r6)), s) := dt43 (by omega) hl hk_b0 hc5
  refine Q.callI (gC_vi zm42 (show zM42.2.2.2.2.2[5]? = some (7, 3, .invokevirtual 73, [0, 43, 1, 1]) from rfl) zm43 hk_b0.1 (hl.le hk_b0).1 rfl (show aCr 1 b0 [.int 0, .ref b0] 3 = some ([some (.ref b0), some (.int 0), none], []) from rfl)) hq4 ?_
  refine Q.run zm42 1 (i' := 7) (ls' := [some (.ref b0), some (.int r3), none]) (st' := [.int r3, .int r6]) rfl ?_
  by_cases hc7 : r6 = r3
  · rw [if_pos hc7] at h
    refine Q.map (A.bF (gI_of zm42 (e := (11, 3, .if_icmp .ne 7, [10])) rfl) (fun q => of_decide_eq_true q hc7)) ?_
    refine Q.run zm42 2 (i' := 11) (ls' := [some (.ref b0), some (.int r3), none]) (st' := [.int 1]) rfl ?_
    exact dt42_11 hd hl hk_b0 h
  · rw [if_neg hc7] at h
    refine Q.map (A.bT (gI_of zm42 (e := (11, 3, .if_icmp .ne 7, [10])) rfl) (decide_eq_true hc7)) ?_
    refine Q.run zm42 1 (i' := 11) (ls' := [some (.ref b0), some (.int r3), none]) (st' := [.int 0]) rfl ?_
    exact dt42_11 hd hl hk_b0 h
/-! 39 FormulaTrees$Sheets.giveName(ILFormulaTrees$Letters;)V -/
set_option maxRecDepth 100000 in
theorem zm39 : zP[39]? = some zM39 := rfl
def dm39 (x1 : Int32) (b2 : Nat) (s : aS) : Option (aS) :=
  bu (dm40 x1 s) fun r3 =>
  if r3 = 0 then
    some s
  else
    if aB x1 8 then
      bu (dm41 (84 + 2 * jN x1) b2 s) fun s10 =>
      bv (dm42 b2 s10) fun r16 s15 =>
      if aB x1 8 then
        nx (wI s15 83 (jN x1) (r16 &&& 1)) fun s20 =>
        some s20
      else none
    else none
set_option maxRecDepth 100000 in
theorem dt39 {sio : Bool} {tt : Nat} {cc : Nat → Nat → Int32} {d : Nat} (hd : 7 ≤ d) {x1 : Int32} {b2 : Nat} {s : aS} (hl : Ly tt cc s) (hk_b2 : aK s b2 1) {o : aS} (h : dm39  x1 b2 s = some o) : Q 1 sio tt cc d 39 0 [some (.ref 81), some (.int x1), some (.ref b2)] [] s (.inl none, o) := by
  unfold dm39 at h
  obtain ⟨d, rfl⟩ : ∃ e, d = e + 1 := ⟨d - 1, by omega⟩
  refine Q.run zm39 2 (i' := 2) (ls' := [some (.ref 81), some (.int x1), some (.ref b2)]) (st' := [.int x1, .ref 81]) rfl ?_
  obtain ⟨r3, hc2, h⟩ := bu_so h
  have hq1 : Q 1 sio tt cc d 40 0 [some (.ref 81), some (.int x1)] [] s (.inl (some (.int r3)), s) := dt40 (by omega) hl  hc2
  refine Q.callI (gC_vi zm39 (show zM39.2.2.2.2.2[2]? = some (2, 3, .invokevirtual 28, [0, 40, 1, 2]) from rfl) zm40 (hl.lt (a := 81) (by decide)) (hl.T (a := 81) (p := (2, 3)) 3 rfl rfl) rfl (show aCr 1 81 [.int x1, .ref 81] 2 = some ([some (.ref 81), some (.int x1)], []) from rfl)) hq1 ?_
  by_cases hc4 : r3 = 0
  · rw [if_pos hc4] at h
    refine Q.map (A.zT (gI_of zm39 (e := (5, 3, .ifCond .eq 23, [16])) rfl) (decide_eq_true hc4)) ?_
    cases h
    exact Q.ret (A.rv zm39 (show zM39.2.2.2.2.2[16]? = some (28, 1, .return_, []) from rfl) rfl) hl
  · rw [if_neg hc4] at h
    refine Q.map (A.zF (gI_of zm39 (e := (5, 3, .ifCond .eq 23, [16])) rfl) (fun q => hc4 (of_decide_eq_true q))) ?_
    refine Q.run zm39 1 (i' := 5) (ls' := [some (.ref 81), some (.int x1), some (.ref b2)]) (st' := [.ref 81]) rfl ?_
    refine Q.map (A.gf (gI_of zm39 (e := (9, 3, .getfield 11, [2, 0])) rfl) (hl.lt (a := 81) (by decide)) (hl.T (a := 81) (p := (2, 3)) 3 rfl rfl) (by decide) (hl.R 6 rfl)) ?_
    refine Q.run zm39 1 (i' := 7) (ls' := [some (.ref 81), some (.int x1), some (.ref b2)]) (st' := [.int x1, .ref 82]) rfl ?_
    obtain ⟨hc5, h⟩ := ite_so h
    have hn6 := lay_names hl hc5.2
    refine Q.map (A.aa (gI_of zm39 (e := (13, 1, .aaload, [])) rfl) (hl.lt (a := 82) (by decide)) (hl.T (a := 82) (p := (111, 8)) 4 rfl rfl) (by decide) hc5 hn6.2) ?_
    have hr7 := hn6.1
    refine Q.run zm39 1 (i' := 9) (ls' := [some (.ref 81), some (.int x1), some (.ref b2)]) (st' := [.ref b2, .ref (84 + 2 * jN x1)]) rfl ?_
    obtain ⟨s10, hc9, h⟩ := bu_so h
    have hq8 : Q 1 sio tt cc d 41 0 [some (.ref (84 + 2 * jN x1)), some (.ref b2), none] [] s (.inl none, s10) := dt41 (by omega) hl hr7 hk_b2 hc9
    refine Q.callV (gC_vi zm39 (show zM39.2.2.2.2.2[9]? = some (15, 3, .invokevirtual 66, [0, 41, 1, 1]) from rfl) zm41 hr7.1 (hl.le hr7).1 rfl (show aCr 1 (84 + 2 * jN x1) [.ref b2, .ref (84 + 2 * jN x1)] 3 = some ([some (.ref (84 + 2 * jN x1)), some (.ref b2), none], []) from rfl)) hq8 ?_
    have hr11 : aK s10 b2 1 := hq8.2.1.k hk_b2
    have hr12 : aK s10 (84 + 2 * jN x1) 1 := hq8.2.1.k hr7
    refine Q.run zm39 1 (i' := 11) (ls' := [some (.ref 81), some (.int x1), some (.ref b2)]) (st' := [.ref 81]) rfl ?_
    refine Q.map (A.gf (gI_of zm39 (e := (19, 3, .getfield 17, [2, 1])) rfl) (hq8.1.lt (a := 81) (by decide)) (hq8.1.T (a := 81) (p := (2, 3)) 3 rfl rfl) (by decide) (hq8.1.R 7 rfl)) ?_
    refine Q.run zm39 2 (i' := 14) (ls' := [some (.ref 81), some (.int x1), some (.ref b2)]) (st' := [.ref b2, .int x1, .ref 83]) rfl ?_
    obtain ⟨r16, s15, hc14, h⟩ := bv_so h
    have hq13 : Q 1 sio tt cc d 42 0 [some (.ref b2), none, none] [] s10 (.inl (some (.int r16)), s15) := dt42 (by omega) hq8.1 hr11 hc14
    refine Q.callI (gC_st zm39 (show zM39.2.2.2.2.2[14]? = some (24, 3, .invokestatic 70, [0, 42, 1]) from rfl) zm42 (show aC 1 [.ref b2, .int x1, .ref 83] 3 = some ([some (.ref b2), none, none], [.int x1, .ref 83]) from rfl)) hq13 ?_
    have hr17 : aK s15 b2 1 := hq13.2.1.k hr11
    have hr18 : aK s15 (84 + 2 * jN x1) 1 := hq13.2.1.k hr12
    obtain ⟨hc19, h⟩ := ite_so h
    obtain ⟨s20, hs21, h⟩ := nx_so h
    refine Q.bs hs21 rfl (gI_of zm39 (e := (27, 1, .bastore, [])) rfl) (hq13.1.lt (a := 83) (by decide)) (by decide) (hq13.1.T (a := 83) (p := (103, 8)) 5 rfl rfl) hc19 ?_
    have hl22 : Ly tt cc s20 := by rw [hs21]; exact hq13.1.wId (by decide)
    have hr23 : aK s20 b2 1 := by rw [hs21]; exact hr17
    have hr24 : aK s20 (84 + 2 * jN x1) 1 := by rw [hs21]; exact hr18
    cases h
    exact Q.ret (A.rv zm39 (show zM39.2.2.2.2.2[16]? = some (28, 1, .return_, []) from rfl) rfl) hl22
/-! 38 FormulaTrees$Sheets.found(LFormulaTrees$Letters;)I -/
set_option maxRecDepth 100000 in
theorem zm38 : zP[38]? = some zM38 := rfl
def dm38 (b1 : Nat) (s : aS) : Option (Int32 × aS) :=
  bu (dm37 s) fun r3 =>
  if r3 = 0 then
    nx (wI s 81 2 ((sI s 81 2) + 1)) fun s5 =>
    bu (dm39 ((sI s5 81 2) - 1) b1 s5) fun s11 =>
    some ((sI s11 81 2) - 1, s11)
  else
    some ((-1), s)
set_option maxRecDepth 100000 in
theorem dt38 {sio : Bool} {tt : Nat} {cc : Nat → Nat → Int32} {d : Nat} (hd : 8 ≤ d) {b1 : Nat} {s : aS} (hl : Ly tt cc s) (hk_b1 : aK s b1 1) {o : Int32 × aS} (h : dm38  b1 s = some o) : Q 1 sio tt cc d 38 0 [some (.ref 81), some (.ref b1)] [] s (.inl (some (.int o.1)), o.2) := by
  unfold dm38 at h
  obtain ⟨d, rfl⟩ : ∃ e, d = e + 1 := ⟨d - 1, by omega⟩
  refine Q.run zm38 1 (i' := 1) (ls' := [some (.ref 81), some (.ref b1)]) (st' := [.ref 81]) rfl ?_
  obtain ⟨r3, hc2, h⟩ := bu_so h
  have hq1 : Q 1 sio tt cc d 37 0 [some (.ref 81)] [] s (.inl (some (.int r3)), s) := dt37 (by omega) hl  hc2
  refine Q.callI (gC_vi zm38 (show zM38.2.2.2.2.2[1]? = some (1, 3, .invokevirtual 58, [0, 37, 0, 2]) from rfl) zm37 (hl.lt (a := 81) (by decide)) (hl.T (a := 81) (p := (2, 3)) 3 rfl rfl) rfl (show aCr 0 81 [.ref 81] 1 = some ([some (.ref 81)], []) from rfl)) hq1 ?_
  by_cases hc4 : r3 = 0
  · rw [if_pos hc4] at h
    refine Q.map (A.zT (gI_of zm38 (e := (4, 3, .ifCond .eq 5, [5])) rfl) (decide_eq_true hc4)) ?_
    refine Q.run zm38 2 (i' := 7) (ls' := [some (.ref 81), some (.ref b1)]) (st' := [.ref 81, .ref 81]) rfl ?_
    refine Q.map (A.gf (gI_of zm38 (e := (11, 3, .getfield 24, [2, 2])) rfl) (hl.lt (a := 81) (by decide)) (hl.T (a := 81) (p := (2, 3)) 3 rfl rfl) (by decide) rfl) ?_
    refine Q.run zm38 2 (i' := 10) (ls' := [some (.ref 81), some (.ref b1)]) (st' := [.int ((sI s 81 2) + 1), .ref 81]) rfl ?_
    obtain ⟨s5, hs6, h⟩ := nx_so h
    refine Q.pf hs6 rfl (gI_of zm38 (e := (16, 3, .putfield 24, [2, 2, 0])) rfl) (hl.lt (a := 81) (by decide)) (by decide) (hl.T (a := 81) (p := (2, 3)) 3 rfl rfl) (by decide) rfl rfl ?_
    have hl7 : Ly tt cc s5 := by rw [hs6]; exact hl.wId (by decide)
    have hr8 : aK s5 b1 1 := by rw [hs6]; exact hk_b1
    refine Q.run zm38 2 (i' := 13) (ls' := [some (.ref 81), some (.ref b1)]) (st' := [.ref 81, .ref 81]) rfl ?_
    refine Q.map (A.gf (gI_of zm38 (e := (21, 3, .getfield 24, [2, 2])) rfl) (hl7.lt (a := 81) (by decide)) (hl7.T (a := 81) (p := (2, 3)) 3 rfl rfl) (by decide) rfl) ?_
    refine Q.run zm38 3 (i' := 17) (ls' := [some (.ref 81), some (.ref b1)]) (st' := [.ref b1, .int ((sI s5 81 2) - 1), .ref 81]) rfl ?_
    obtain ⟨s11, hc10, h⟩ := bu_so h
    have hq9 : Q 1 sio tt cc d 39 0 [some (.ref 81), some (.int ((sI s5 81 2) - 1)), some (.ref b1)] [] s5 (.inl none, s11) := dt39 (by omega) hl7 hr8 hc10
    refine Q.callV (gC_vi zm38 (show zM38.2.2.2.2.2[17]? = some (27, 3, .invokevirtual 62, [0, 39, 2, 2]) from rfl) zm39 (hl7.lt (a := 81) (by decide)) (hl7.T (a := 81) (p := (2, 3)) 3 rfl rfl) rfl (show aCr 2 81 [.ref b1, .int ((sI s5 81 2) - 1), .ref 81] 3 = some ([some (.ref 81), some (.int ((sI s5 81 2) - 1)), some (.ref b1)], []) from rfl)) hq9 ?_
    have hr12 : aK s11 b1 1 := hq9.2.1.k hr8
    refine Q.run zm38 1 (i' := 19) (ls' := [some (.ref 81), some (.ref b1)]) (st' := [.ref 81]) rfl ?_
    refine Q.map (A.gf (gI_of zm38 (e := (31, 3, .getfield 24, [2, 2])) rfl) (hq9.1.lt (a := 81) (by decide)) (hq9.1.T (a := 81) (p := (2, 3)) 3 rfl rfl) (by decide) rfl) ?_
    refine Q.run zm38 2 (i' := 22) (ls' := [some (.ref 81), some (.ref b1)]) (st' := [.int ((sI s11 81 2) - 1)]) rfl ?_
    cases h
    exact Q.ret (A.ri zm38 (show zM38.2.2.2.2.2[22]? = some (36, 1, .ireturn, []) from rfl) rfl rfl) hq9.1
  · rw [if_neg hc4] at h
    refine Q.map (A.zF (gI_of zm38 (e := (4, 3, .ifCond .eq 5, [5])) rfl) (fun q => hc4 (of_decide_eq_true q))) ?_
    refine Q.run zm38 1 (i' := 4) (ls' := [some (.ref 81), some (.ref b1)]) (st' := [.int (-1)]) rfl ?_
    cases h
    exact Q.ret (A.ri zm38 (show zM38.2.2.2.2.2[4]? = some (8, 1, .ireturn, []) from rfl) rfl rfl) hl
/-! 30 FormulaTrees.sheet()I -/
set_option maxRecDepth 100000 in
theorem zm30 : zP[30]? = some zM30 := rfl
def dm30 (s : aS) : Option (xZ × aS) :=
  bu (dm31 79 (-1) s) fun r3 =>
  if r3 = 0 then
    some (.inr 0, nw s 80 0)
  else
    bu (dm37 s) fun r7 =>
    if r7 = 0 then
      bv (dm38 79 s) fun r12 s11 =>
      some (.inl (some (.int r12)), s11)
    else
      some (.inr 1, nw s 81 0)
set_option maxRecDepth 100000 in
theorem dt30 {sio : Bool} {tt : Nat} {cc : Nat → Nat → Int32} {d : Nat} (hd : 9 ≤ d) {s : aS} (hl : Ly tt cc s) {o : xZ × aS} (h : dm30  s = some o) : Q 1 sio tt cc d 30 0 [some (.ref 78)] [] s o := by
  unfold dm30 at h
  obtain ⟨d, rfl⟩ : ∃ e, d = e + 1 := ⟨d - 1, by omega⟩
  refine Q.run zm30 1 (i' := 1) (ls' := [some (.ref 78)]) (st' := [.ref 78]) rfl ?_
  refine Q.map (A.gf (gI_of zm30 (e := (1, 3, .getfield 21, [0, 1])) rfl) (hl.lt (a := 78) (by decide)) (hl.T (a := 78) (p := (0, 7)) 0 rfl rfl) (by decide) (hl.R 1 rfl)) ?_
  refine Q.run zm30 1 (i' := 3) (ls' := [some (.ref 78)]) (st' := [.ref 78, .ref 81]) rfl ?_
  refine Q.map (A.gf (gI_of zm30 (e := (5, 3, .getfield 14, [0, 0])) rfl) (hl.lt (a := 78) (by decide)) (hl.T (a := 78) (p := (0, 7)) 0 rfl rfl) (by decide) (hl.R 0 rfl)) ?_
  refine Q.run zm30 1 (i' := 5) (ls' := [some (.ref 78)]) (st' := [.int (-1), .ref 79, .ref 81]) rfl ?_
  obtain ⟨r3, hc2, h⟩ := bu_so h
  have hq1 : Q 1 sio tt cc d 31 0 [some (.ref 81), some (.ref 79), some (.int (-1)), none] [] s (.inl (some (.int r3)), s) := dt31 (by omega) hl (hl.Kd (a := 79) (c := 1) (n := 2) 1 rfl rfl (by decide)) hc2
  refine Q.callI (gC_vi zm30 (show zM30.2.2.2.2.2[5]? = some (9, 3, .invokevirtual 80, [0, 31, 2, 2]) from rfl) zm31 (hl.lt (a := 81) (by decide)) (hl.T (a := 81) (p := (2, 3)) 3 rfl rfl) rfl (show aCr 2 81 [.int (-1), .ref 79, .ref 81] 4 = some ([some (.ref 81), some (.ref 79), some (.int (-1)), none], []) from rfl)) hq1 ?_
  by_cases hc4 : r3 = 0
  · rw [if_pos hc4] at h
    refine Q.map (A.zF (gI_of zm30 (e := (12, 3, .ifCond .ne 13, [12])) rfl) (fun q => of_decide_eq_true q hc4)) ?_
    cases h
    exact Q.t zm30 (show zM30.2.2.2.2.2[7]? = some (15, 3, .new 58, [200]) from rfl) rfl rfl hl.gL (by omega) hl
  · rw [if_neg hc4] at h
    refine Q.map (A.zT (gI_of zm30 (e := (12, 3, .ifCond .ne 13, [12])) rfl) (decide_eq_true hc4)) ?_
    refine Q.run zm30 1 (i' := 13) (ls' := [some (.ref 78)]) (st' := [.ref 78]) rfl ?_
    refine Q.map (A.gf (gI_of zm30 (e := (26, 3, .getfield 21, [0, 1])) rfl) (hl.lt (a := 78) (by decide)) (hl.T (a := 78) (p := (0, 7)) 0 rfl rfl) (by decide) (hl.R 1 rfl)) ?_
    obtain ⟨r7, hc6, h⟩ := bu_so h
    have hq5 : Q 1 sio tt cc d 37 0 [some (.ref 81)] [] s (.inl (some (.int r7)), s) := dt37 (by omega) hl  hc6
    refine Q.callI (gC_vi zm30 (show zM30.2.2.2.2.2[14]? = some (29, 3, .invokevirtual 86, [0, 37, 0, 2]) from rfl) zm37 (hl.lt (a := 81) (by decide)) (hl.T (a := 81) (p := (2, 3)) 3 rfl rfl) rfl (show aCr 0 81 [.ref 81] 1 = some ([some (.ref 81)], []) from rfl)) hq5 ?_
    by_cases hc8 : r7 = 0
    · rw [if_pos hc8] at h
      refine Q.map (A.zT (gI_of zm30 (e := (32, 3, .ifCond .eq 13, [21])) rfl) (decide_eq_true hc8)) ?_
      refine Q.run zm30 1 (i' := 22) (ls' := [some (.ref 78)]) (st' := [.ref 78]) rfl ?_
      refine Q.map (A.gf (gI_of zm30 (e := (46, 3, .getfield 21, [0, 1])) rfl) (hl.lt (a := 78) (by decide)) (hl.T (a := 78) (p := (0, 7)) 0 rfl rfl) (by decide) (hl.R 1 rfl)) ?_
      refine Q.run zm30 1 (i' := 24) (ls' := [some (.ref 78)]) (st' := [.ref 78, .ref 81]) rfl ?_
      refine Q.map (A.gf (gI_of zm30 (e := (50, 3, .getfield 14, [0, 0])) rfl) (hl.lt (a := 78) (by decide)) (hl.T (a := 78) (p := (0, 7)) 0 rfl rfl) (by decide) (hl.R 0 rfl)) ?_
      obtain ⟨r12, s11, hc10, h⟩ := bv_so h
      have hq9 : Q 1 sio tt cc d 38 0 [some (.ref 81), some (.ref 79)] [] s (.inl (some (.int r12)), s11) := dt38 (by omega) hl (hl.Kd (a := 79) (c := 1) (n := 2) 1 rfl rfl (by decide)) hc10
      refine Q.callI (gC_vi zm30 (show zM30.2.2.2.2.2[25]? = some (53, 3, .invokevirtual 92, [0, 38, 1, 2]) from rfl) zm38 (hl.lt (a := 81) (by decide)) (hl.T (a := 81) (p := (2, 3)) 3 rfl rfl) rfl (show aCr 1 81 [.ref 79, .ref 81] 2 = some ([some (.ref 81), some (.ref 79)], []) from rfl)) hq9 ?_
      cases h
      exact Q.ret (A.ri zm30 (show zM30.2.2.2.2.2[26]? = some (56, 1, .ireturn, []) from rfl) rfl rfl) hq9.1
    · rw [if_neg hc8] at h
      refine Q.map (A.zF (gI_of zm30 (e := (32, 3, .ifCond .eq 13, [21])) rfl) (fun q => hc8 (of_decide_eq_true q))) ?_
      cases h
      exact Q.t zm30 (show zM30.2.2.2.2.2[16]? = some (35, 3, .new 69, [201]) from rfl) rfl rfl hl.gL (by omega) hl
/-! 2 FormulaTreesLaw.sheet(LFormulaTrees;[J)I -/
set_option maxRecDepth 100000 in
theorem zm2 : zP[2]? = some zM2 := rfl
def dm2 (s : aS) : Option (Int32 × aS) :=
  bv (dm30 s) fun z4 s3 =>
  zN z4 (fun v5 =>
    vI v5 fun r7 =>
    if aB 0 1 then
      nx (wJ s3 148 (jN 0) r7.toInt64) fun s10 =>
      some (0, s10)
    else none
  ) fun e6 =>
    if e6 = 0 then
      some (1, s3)
    else
      if e6 = 1 then
        some (2, s3)
      else
        none
set_option maxRecDepth 100000 in
theorem dt2 {sio : Bool} {tt : Nat} {cc : Nat → Nat → Int32} {d : Nat} (hd : 10 ≤ d) {s : aS} (hl : Ly tt cc s) {o : Int32 × aS} (h : dm2  s = some o) : Q 1 sio tt cc d 2 0 [some (.ref 78), some (.ref 148), none] [] s (.inl (some (.int o.1)), o.2) := by
  unfold dm2 at h
  obtain ⟨d, rfl⟩ : ∃ e, d = e + 1 := ⟨d - 1, by omega⟩
  refine Q.run zm2 3 (i' := 3) (ls' := [some (.ref 78), some (.ref 148), none]) (st' := [.ref 78, .int 0, .ref 148]) rfl ?_
  obtain ⟨z4, s3, hc2, h⟩ := bv_so h
  have hq1 : Q 1 sio tt cc d 30 0 [some (.ref 78)] [] s (z4, s3) := dt30 (by omega) hl  hc2
  rcases zN_so h with ⟨v5, hz13, h8⟩ | ⟨e6, hz13, h8⟩
  · clear h
    subst hz13
    have h := h8
    obtain ⟨r7, hv8, h9⟩ := vI_so h
    clear h
    subst hv8
    have h := h9
    refine Q.callI (gC_vi zm2 (show zM2.2.2.2.2.2[3]? = some (3, 3, .invokevirtual 17, [0, 30, 0, 0]) from rfl) zm30 (hl.lt (a := 78) (by decide)) (hl.T (a := 78) (p := (0, 7)) 0 rfl rfl) rfl (show aCr 0 78 [.ref 78, .int 0, .ref 148] 1 = some ([some (.ref 78)], [.int 0, .ref 148]) from rfl)) hq1 ?_
    refine Q.run zm2 1 (i' := 5) (ls' := [some (.ref 78), some (.ref 148), none]) (st' := [.long r7.toInt64, .int 0, .ref 148]) rfl ?_
    obtain ⟨hc9, h⟩ := ite_so h
    obtain ⟨s10, hs11, h⟩ := nx_so h
    refine Q.lS hs11 rfl (gI_of zm2 (e := (7, 1, .lastore, [])) rfl) (hq1.1.lt (a := 148) (by decide)) (by decide) (hq1.1.T (a := 148) (p := (104, 1)) 70 rfl rfl) hc9 ?_
    have hl12 : Ly tt cc s10 := by rw [hs11]; exact hq1.1.wJd
    refine Q.run zm2 2 (i' := 14) (ls' := [some (.ref 78), some (.ref 148), none]) (st' := [.int 0]) rfl ?_
    cases h
    exact Q.ret (A.ri zm2 (show zM2.2.2.2.2.2[14]? = some (18, 1, .ireturn, []) from rfl) rfl rfl) hl12
  · clear h
    subst hz13
    have h := h8
    by_cases hc14 : e6 = 0
    · rw [if_pos hc14] at h
      subst hc14
      refine Q.hc (gC_vi zm2 (show zM2.2.2.2.2.2[3]? = some (3, 3, .invokevirtual 17, [0, 30, 0, 0]) from rfl) zm30 (hl.lt (a := 78) (by decide)) (hl.T (a := 78) (p := (0, 7)) 0 rfl rfl) rfl (show aCr 0 78 [.ref 78, .int 0, .ref 148] 1 = some ([some (.ref 78)], [.int 0, .ref 148]) from rfl)) hq1 (t := 7) rfl ?_
      refine Q.run zm2 2 (i' := 9) (ls' := [some (.ref 78), some (.ref 148), some (.ref (sL s3 - 1))]) (st' := [.int 1]) rfl ?_
      cases h
      exact Q.ret (A.ri zm2 (show zM2.2.2.2.2.2[9]? = some (13, 1, .ireturn, []) from rfl) rfl rfl) hq1.1
    · rw [if_neg hc14] at h
      by_cases hc15 : e6 = 1
      · rw [if_pos hc15] at h
        subst hc15
        refine Q.hc (gC_vi zm2 (show zM2.2.2.2.2.2[3]? = some (3, 3, .invokevirtual 17, [0, 30, 0, 0]) from rfl) zm30 (hl.lt (a := 78) (by decide)) (hl.T (a := 78) (p := (0, 7)) 0 rfl rfl) rfl (show aCr 0 78 [.ref 78, .int 0, .ref 148] 1 = some ([some (.ref 78)], [.int 0, .ref 148]) from rfl)) hq1 (t := 10) rfl ?_
        refine Q.run zm2 2 (i' := 12) (ls' := [some (.ref 78), some (.ref 148), some (.ref (sL s3 - 1))]) (st' := [.int 2]) rfl ?_
        cases h
        exact Q.ret (A.ri zm2 (show zM2.2.2.2.2.2[12]? = some (16, 1, .ireturn, []) from rfl) rfl rfl) hq1.1
      · rw [if_neg hc15] at h
        cases h
/-! 176 FormulaTreesModel.ch(I)I -/
set_option maxRecDepth 100000 in
theorem zm176 : zP[176]? = some zM176 := rfl
def dm176 (x1 : Int32) (s : aS) : Option (Int32) :=
  if (sI s 121 1) ≤ x1 then
    some 0
  else
    if aB x1 256 then
      some (sI s 122 (jN x1))
    else none
set_option maxRecDepth 100000 in
theorem dt176 {sio : Bool} {tt : Nat} {cc : Nat → Nat → Int32} {d : Nat} (hd : 0 ≤ d) {x1 : Int32} {s : aS} (hl : Ly tt cc s) {o : Int32} (h : dm176  x1 s = some o) : Q 2 sio tt cc d 176 0 [some (.ref 121), some (.int x1)] [] s (.inl (some (.int o)), s) := by
  unfold dm176 at h
  refine Q.run zm176 2 (i' := 2) (ls' := [some (.ref 121), some (.int x1)]) (st' := [.ref 121, .int x1]) rfl ?_
  refine Q.map (A.gf (gI_of zm176 (e := (2, 3, .getfield 103, [9, 1])) rfl) (hl.lt (a := 121) (by decide)) (hl.T (a := 121) (p := (9, 45)) 43 rfl rfl) (by decide) rfl) ?_
  by_cases hc1 : (sI s 121 1) ≤ x1
  · rw [if_pos hc1] at h
    refine Q.map (A.bT (gI_of zm176 (e := (5, 3, .if_icmp .ge 12, [9])) rfl) (decide_eq_true hc1)) ?_
    refine Q.run zm176 1 (i' := 10) (ls' := [some (.ref 121), some (.int x1)]) (st' := [.int 0]) rfl ?_
    cases h
    exact Q.ret (A.ri zm176 (show zM176.2.2.2.2.2[10]? = some (18, 1, .ireturn, []) from rfl) rfl rfl) hl
  · rw [if_neg hc1] at h
    refine Q.map (A.bF (gI_of zm176 (e := (5, 3, .if_icmp .ge 12, [9])) rfl) (fun q => hc1 (of_decide_eq_true q))) ?_
    refine Q.run zm176 1 (i' := 5) (ls' := [some (.ref 121), some (.int x1)]) (st' := [.ref 121]) rfl ?_
    refine Q.map (A.gf (gI_of zm176 (e := (9, 3, .getfield 7, [9, 2])) rfl) (hl.lt (a := 121) (by decide)) (hl.T (a := 121) (p := (9, 45)) 43 rfl rfl) (by decide) (hl.R 23 rfl)) ?_
    refine Q.run zm176 1 (i' := 7) (ls' := [some (.ref 121), some (.int x1)]) (st' := [.int x1, .ref 122]) rfl ?_
    obtain ⟨hc2, h⟩ := ite_so h
    refine Q.map (A.ia (gI_of zm176 (e := (13, 1, .iaload, [])) rfl) (hl.lt (a := 122) (by decide)) (hl.T (a := 122) (p := (100, 256)) 44 rfl rfl) hc2) ?_
    refine Q.run zm176 1 (i' := 10) (ls' := [some (.ref 121), some (.int x1)]) (st' := [.int (sI s 122 (jN x1))]) rfl ?_
    cases h
    exact Q.ret (A.ri zm176 (show zM176.2.2.2.2.2[10]? = some (18, 1, .ireturn, []) from rfl) rfl rfl) hl
/-! 175 FormulaTreesModel.isName()Z -/
set_option maxRecDepth 100000 in
theorem zm175 : zP[175]? = some zM175 := rfl
def dm175_62 (k27 : Int32 → Int32 → aS → Option (Int32)) (x2 : Int32) (y0 : Int32) (s : aS) : Option (Int32) :=
  k27 y0 (x2 + 1) s
set_option maxRecDepth 100000 in
theorem dt175_62 {sio : Bool} {tt : Nat} {cc : Nat → Nat → Int32} {d : Nat} (hd : 1 ≤ d) {k27 : Int32 → Int32 → aS → Option (Int32)} (hk27 : ∀ {x1 : Int32} {x2 : Int32} {g3 : Option Value} {s : aS}, Ly tt cc s → ∀ {o : Int32}, k27 x1 x2 s = some o → Q 2 sio tt cc d 175 27 [some (.ref 121), some (.int x1), some (.int x2), g3] [] s (.inl (some (.int o)), s)) {x2 : Int32} {y0 : Int32} {x1 : Int32} {x3 : Int32} {s : aS} (hl : Ly tt cc s) {o : Int32} (h : dm175_62 k27 x2 y0 s = some o) : Q 2 sio tt cc d 175 62 [some (.ref 121), some (.int x1), some (.int x2), some (.int x3)] [.int y0] s (.inl (some (.int o)), s) := by
  unfold dm175_62 at h
  obtain ⟨d, rfl⟩ : ∃ e, d = e + 1 := ⟨d - 1, by omega⟩
  refine Q.run zm175 3 (i' := 27) (ls' := [some (.ref 121), some (.int y0), some (.int (x2 + 1)), some (.int x3)]) (st' := []) rfl ?_
  exact hk27 hl  h
def dm175_61 (k27 : Int32 → Int32 → aS → Option (Int32)) (x2 : Int32) (s : aS) : Option (Int32) :=
  dm175_62 k27 x2 0 s
set_option maxRecDepth 100000 in
theorem dt175_61 {sio : Bool} {tt : Nat} {cc : Nat → Nat → Int32} {d : Nat} (hd : 1 ≤ d) {k27 : Int32 → Int32 → aS → Option (Int32)} (hk27 : ∀ {x1 : Int32} {x2 : Int32} {g3 : Option Value} {s : aS}, Ly tt cc s → ∀ {o : Int32}, k27 x1 x2 s = some o → Q 2 sio tt cc d 175 27 [some (.ref 121), some (.int x1), some (.int x2), g3] [] s (.inl (some (.int o)), s)) {x2 : Int32} {x1 : Int32} {x3 : Int32} {s : aS} (hl : Ly tt cc s) {o : Int32} (h : dm175_61 k27 x2 s = some o) : Q 2 sio tt cc d 175 61 [some (.ref 121), some (.int x1), some (.int x2), some (.int x3)] [] s (.inl (some (.int o)), s) := by
  unfold dm175_61 at h
  obtain ⟨d, rfl⟩ : ∃ e, d = e + 1 := ⟨d - 1, by omega⟩
  refine Q.run zm175 1 (i' := 62) (ls' := [some (.ref 121), some (.int x1), some (.int x2), some (.int x3)]) (st' := [.int 0]) rfl ?_
  exact dt175_62 hd hk27 hl  h
def dm175_27 : Nat → Int32 → Int32 → aS → Option (Int32)
  | 0, _, _, _ => none
  | n + 1, x1, x2, s =>
    if (sI s 121 1) ≤ x2 then
      if x1 = 0 ∨ x1 = 1 then
        some x1
      else none
    else
      if x1 = 0 then
        if x1 = 0 ∨ x1 = 1 then
          some x1
        else none
      else
        if aB x2 256 then
          if (sI s 122 (jN x2)) = 58 then
            dm175_61 (dm175_27 n) x2 s
          else
            if (sI s 122 (jN x2)) = 92 then
              dm175_61 (dm175_27 n) x2 s
            else
              if (sI s 122 (jN x2)) = 47 then
                dm175_61 (dm175_27 n) x2 s
              else
                if (sI s 122 (jN x2)) = 63 then
                  dm175_61 (dm175_27 n) x2 s
                else
                  if (sI s 122 (jN x2)) = 42 then
                    dm175_61 (dm175_27 n) x2 s
                  else
                    if (sI s 122 (jN x2)) = 91 then
                      dm175_61 (dm175_27 n) x2 s
                    else
                      if (sI s 122 (jN x2)) = 93 then
                        dm175_61 (dm175_27 n) x2 s
                      else
                        dm175_62 (dm175_27 n) x2 1 s
        else none
set_option maxRecDepth 100000 in
theorem dt175_27 {sio : Bool} {tt : Nat} {cc : Nat → Nat → Int32} {d : Nat} (hd : 1 ≤ d) : ∀ (n : Nat) {x1 : Int32} {x2 : Int32} {g3 : Option Value} {s : aS} (_ : Ly tt cc s) {o : Int32} (_ : dm175_27  n x1 x2 s = some o), Q 2 sio tt cc d 175 27 [some (.ref 121), some (.int x1), some (.int x2), g3] [] s (.inl (some (.int o)), s) := by
  obtain ⟨d, rfl⟩ : ∃ e, d = e + 1 := ⟨d - 1, by omega⟩
  intro n
  induction n with
  | zero => intro x1 x2 g3 s hl o h; rw [dm175_27] at h; cases h
  | succ n ih =>
    intro x1 x2 g3 s hl o h
    rw [dm175_27] at h
    refine Q.run zm175 2 (i' := 29) (ls' := [some (.ref 121), some (.int x1), some (.int x2), g3]) (st' := [.ref 121, .int x2]) rfl ?_
    refine Q.map (A.gf (gI_of zm175 (e := (52, 3, .getfield 103, [9, 1])) rfl) (hl.lt (a := 121) (by decide)) (hl.T (a := 121) (p := (9, 45)) 43 rfl rfl) (by decide) rfl) ?_
    by_cases hc1 : (sI s 121 1) ≤ x2
    · rw [if_pos hc1] at h
      refine Q.map (A.bT (gI_of zm175 (e := (55, 3, .if_icmp .ge 68, [65])) rfl) (decide_eq_true hc1)) ?_
      refine Q.run zm175 1 (i' := 66) (ls' := [some (.ref 121), some (.int x1), some (.int x2), g3]) (st' := [.int x1]) rfl ?_
      obtain ⟨hc2, h⟩ := ite_so h
      cases h
      exact Q.ret (A.ri zm175 (show zM175.2.2.2.2.2[66]? = some (124, 1, .ireturn, []) from rfl) rfl (fit1 hc2)) hl
    · rw [if_neg hc1] at h
      refine Q.map (A.bF (gI_of zm175 (e := (55, 3, .if_icmp .ge 68, [65])) rfl) (fun q => hc1 (of_decide_eq_true q))) ?_
      refine Q.run zm175 1 (i' := 32) (ls' := [some (.ref 121), some (.int x1), some (.int x2), g3]) (st' := [.int x1]) rfl ?_
      by_cases hc3 : x1 = 0
      · rw [if_pos hc3] at h
        refine Q.map (A.zT (gI_of zm175 (e := (59, 3, .ifCond .eq 64, [65])) rfl) (decide_eq_true hc3)) ?_
        refine Q.run zm175 1 (i' := 66) (ls' := [some (.ref 121), some (.int x1), some (.int x2), g3]) (st' := [.int x1]) rfl ?_
        obtain ⟨hc4, h⟩ := ite_so h
        cases h
        exact Q.ret (A.ri zm175 (show zM175.2.2.2.2.2[66]? = some (124, 1, .ireturn, []) from rfl) rfl (fit1 hc4)) hl
      · rw [if_neg hc3] at h
        refine Q.map (A.zF (gI_of zm175 (e := (59, 3, .ifCond .eq 64, [65])) rfl) (fun q => hc3 (of_decide_eq_true q))) ?_
        refine Q.run zm175 1 (i' := 34) (ls' := [some (.ref 121), some (.int x1), some (.int x2), g3]) (st' := [.ref 121]) rfl ?_
        refine Q.map (A.gf (gI_of zm175 (e := (63, 3, .getfield 7, [9, 2])) rfl) (hl.lt (a := 121) (by decide)) (hl.T (a := 121) (p := (9, 45)) 43 rfl rfl) (by decide) (hl.R 23 rfl)) ?_
        refine Q.run zm175 1 (i' := 36) (ls' := [some (.ref 121), some (.int x1), some (.int x2), g3]) (st' := [.int x2, .ref 122]) rfl ?_
        obtain ⟨hc5, h⟩ := ite_so h
        refine Q.map (A.ia (gI_of zm175 (e := (67, 1, .iaload, [])) rfl) (hl.lt (a := 122) (by decide)) (hl.T (a := 122) (p := (100, 256)) 44 rfl rfl) hc5) ?_
        refine Q.run zm175 3 (i' := 40) (ls' := [some (.ref 121), some (.int x1), some (.int x2), some (.int (sI s 122 (jN x2)))]) (st' := [.int 58, .int (sI s 122 (jN x2))]) rfl ?_
        by_cases hc6 : (sI s 122 (jN x2)) = 58
        · rw [if_pos hc6] at h
          refine Q.map (A.bT (gI_of zm175 (e := (72, 3, .if_icmp .eq 43, [61])) rfl) (decide_eq_true hc6)) ?_
          exact dt175_61 hd ih hl  h
        · rw [if_neg hc6] at h
          refine Q.map (A.bF (gI_of zm175 (e := (72, 3, .if_icmp .eq 43, [61])) rfl) (fun q => hc6 (of_decide_eq_true q))) ?_
          refine Q.run zm175 2 (i' := 43) (ls' := [some (.ref 121), some (.int x1), some (.int x2), some (.int (sI s 122 (jN x2)))]) (st' := [.int 92, .int (sI s 122 (jN x2))]) rfl ?_
          by_cases hc7 : (sI s 122 (jN x2)) = 92
          · rw [if_pos hc7] at h
            refine Q.map (A.bT (gI_of zm175 (e := (78, 3, .if_icmp .eq 37, [61])) rfl) (decide_eq_true hc7)) ?_
            exact dt175_61 hd ih hl  h
          · rw [if_neg hc7] at h
            refine Q.map (A.bF (gI_of zm175 (e := (78, 3, .if_icmp .eq 37, [61])) rfl) (fun q => hc7 (of_decide_eq_true q))) ?_
            refine Q.run zm175 2 (i' := 46) (ls' := [some (.ref 121), some (.int x1), some (.int x2), some (.int (sI s 122 (jN x2)))]) (st' := [.int 47, .int (sI s 122 (jN x2))]) rfl ?_
            by_cases hc8 : (sI s 122 (jN x2)) = 47
            · rw [if_pos hc8] at h
              refine Q.map (A.bT (gI_of zm175 (e := (84, 3, .if_icmp .eq 31, [61])) rfl) (decide_eq_true hc8)) ?_
              exact dt175_61 hd ih hl  h
            · rw [if_neg hc8] at h
              refine Q.map (A.bF (gI_of zm175 (e := (84, 3, .if_icmp .eq 31, [61])) rfl) (fun q => hc8 (of_decide_eq_true q))) ?_
              refine Q.run zm175 2 (i' := 49) (ls' := [some (.ref 121), some (.int x1), some (.int x2), some (.int (sI s 122 (jN x2)))]) (st' := [.int 63, .int (sI s 122 (jN x2))]) rfl ?_
              by_cases hc9 : (sI s 122 (jN x2)) = 63
              · rw [if_pos hc9] at h
                refine Q.map (A.bT (gI_of zm175 (e := (90, 3, .if_icmp .eq 25, [61])) rfl) (decide_eq_true hc9)) ?_
                exact dt175_61 hd ih hl  h
              · rw [if_neg hc9] at h
                refine Q.map (A.bF (gI_of zm175 (e := (90, 3, .if_icmp .eq 25, [61])) rfl) (fun q => hc9 (of_decide_eq_true q))) ?_
                refine Q.run zm175 2 (i' := 52) (ls' := [some (.ref 121), some (.int x1), some (.int x2), some (.int (sI s 122 (jN x2)))]) (st' := [.int 42, .int (sI s 122 (jN x2))]) rfl ?_
                by_cases hc10 : (sI s 122 (jN x2)) = 42
                · rw [if_pos hc10] at h
                  refine Q.map (A.bT (gI_of zm175 (e := (96, 3, .if_icmp .eq 19, [61])) rfl) (decide_eq_true hc10)) ?_
                  exact dt175_61 hd ih hl  h
                · rw [if_neg hc10] at h
                  refine Q.map (A.bF (gI_of zm175 (e := (96, 3, .if_icmp .eq 19, [61])) rfl) (fun q => hc10 (of_decide_eq_true q))) ?_
                  refine Q.run zm175 2 (i' := 55) (ls' := [some (.ref 121), some (.int x1), some (.int x2), some (.int (sI s 122 (jN x2)))]) (st' := [.int 91, .int (sI s 122 (jN x2))]) rfl ?_
                  by_cases hc11 : (sI s 122 (jN x2)) = 91
                  · rw [if_pos hc11] at h
                    refine Q.map (A.bT (gI_of zm175 (e := (102, 3, .if_icmp .eq 13, [61])) rfl) (decide_eq_true hc11)) ?_
                    exact dt175_61 hd ih hl  h
                  · rw [if_neg hc11] at h
                    refine Q.map (A.bF (gI_of zm175 (e := (102, 3, .if_icmp .eq 13, [61])) rfl) (fun q => hc11 (of_decide_eq_true q))) ?_
                    refine Q.run zm175 2 (i' := 58) (ls' := [some (.ref 121), some (.int x1), some (.int x2), some (.int (sI s 122 (jN x2)))]) (st' := [.int 93, .int (sI s 122 (jN x2))]) rfl ?_
                    by_cases hc12 : (sI s 122 (jN x2)) = 93
                    · rw [if_pos hc12] at h
                      refine Q.map (A.bT (gI_of zm175 (e := (108, 3, .if_icmp .eq 7, [61])) rfl) (decide_eq_true hc12)) ?_
                      exact dt175_61 hd ih hl  h
                    · rw [if_neg hc12] at h
                      refine Q.map (A.bF (gI_of zm175 (e := (108, 3, .if_icmp .eq 7, [61])) rfl) (fun q => hc12 (of_decide_eq_true q))) ?_
                      refine Q.run zm175 2 (i' := 62) (ls' := [some (.ref 121), some (.int x1), some (.int x2), some (.int (sI s 122 (jN x2)))]) (st' := [.int 1]) rfl ?_
                      exact dt175_62 hd ih hl  h
def dm175_24 (y0 : Int32) (s : aS) : Option (Int32) :=
  dm175_27 5000 y0 0 s
set_option maxRecDepth 100000 in
theorem dt175_24 {sio : Bool} {tt : Nat} {cc : Nat → Nat → Int32} {d : Nat} (hd : 1 ≤ d) {y0 : Int32} {s : aS} (hl : Ly tt cc s) {o : Int32} (h : dm175_24  y0 s = some o) : Q 2 sio tt cc d 175 24 [some (.ref 121), none, none, none] [.int y0] s (.inl (some (.int o)), s) := by
  unfold dm175_24 at h
  obtain ⟨d, rfl⟩ : ∃ e, d = e + 1 := ⟨d - 1, by omega⟩
  refine Q.run zm175 3 (i' := 27) (ls' := [some (.ref 121), some (.int y0), some (.int 0), none]) (st' := []) rfl ?_
  exact dt175_27 hd _ hl  h
def dm175_23 (s : aS) : Option (Int32) :=
  dm175_24 0 s
set_option maxRecDepth 100000 in
theorem dt175_23 {sio : Bool} {tt : Nat} {cc : Nat → Nat → Int32} {d : Nat} (hd : 1 ≤ d) {s : aS} (hl : Ly tt cc s) {o : Int32} (h : dm175_23  s = some o) : Q 2 sio tt cc d 175 23 [some (.ref 121), none, none, none] [] s (.inl (some (.int o)), s) := by
  unfold dm175_23 at h
  obtain ⟨d, rfl⟩ : ∃ e, d = e + 1 := ⟨d - 1, by omega⟩
  refine Q.run zm175 1 (i' := 24) (ls' := [some (.ref 121), none, none, none]) (st' := [.int 0]) rfl ?_
  exact dt175_24 hd hl  h
def dm175 (s : aS) : Option (Int32) :=
  if (sI s 121 1) < 1 then
    dm175_23 s
  else
    if 31 < (sI s 121 1) then
      dm175_23 s
    else
      bu (dm176 0 s) fun r5 =>
      if r5 = 39 then
        dm175_23 s
      else
        bu (dm176 ((sI s 121 1) - 1) s) fun r9 =>
        if r9 = 39 then
          dm175_23 s
        else
          dm175_24 1 s
set_option maxRecDepth 100000 in
theorem dt175 {sio : Bool} {tt : Nat} {cc : Nat → Nat → Int32} {d : Nat} (hd : 1 ≤ d) {s : aS} (hl : Ly tt cc s) {o : Int32} (h : dm175  s = some o) : Q 2 sio tt cc d 175 0 [some (.ref 121), none, none, none] [] s (.inl (some (.int o)), s) := by
  unfold dm175 at h
  obtain ⟨d, rfl⟩ : ∃ e, d = e + 1 := ⟨d - 1, by omega⟩
  refine Q.run zm175 1 (i' := 1) (ls' := [some (.ref 121), none, none, none]) (st' := [.ref 121]) rfl ?_
  refine Q.map (A.gf (gI_of zm175 (e := (1, 3, .getfield 103, [9, 1])) rfl) (hl.lt (a := 121) (by decide)) (hl.T (a := 121) (p := (9, 45)) 43 rfl rfl) (by decide) rfl) ?_
  refine Q.run zm175 1 (i' := 3) (ls' := [some (.ref 121), none, none, none]) (st' := [.int 1, .int (sI s 121 1)]) rfl ?_
  by_cases hc1 : (sI s 121 1) < 1
  · rw [if_pos hc1] at h
    refine Q.map (A.bT (gI_of zm175 (e := (5, 3, .if_icmp .lt 41, [23])) rfl) (decide_eq_true hc1)) ?_
    exact dt175_23 hd hl  h
  · rw [if_neg hc1] at h
    refine Q.map (A.bF (gI_of zm175 (e := (5, 3, .if_icmp .lt 41, [23])) rfl) (fun q => hc1 (of_decide_eq_true q))) ?_
    refine Q.run zm175 1 (i' := 5) (ls' := [some (.ref 121), none, none, none]) (st' := [.ref 121]) rfl ?_
    refine Q.map (A.gf (gI_of zm175 (e := (9, 3, .getfield 103, [9, 1])) rfl) (hl.lt (a := 121) (by decide)) (hl.T (a := 121) (p := (9, 45)) 43 rfl rfl) (by decide) rfl) ?_
    refine Q.run zm175 1 (i' := 7) (ls' := [some (.ref 121), none, none, none]) (st' := [.int 31, .int (sI s 121 1)]) rfl ?_
    by_cases hc2 : 31 < (sI s 121 1)
    · rw [if_pos hc2] at h
      refine Q.map (A.bT (gI_of zm175 (e := (14, 3, .if_icmp .gt 32, [23])) rfl) (decide_eq_true hc2)) ?_
      exact dt175_23 hd hl  h
    · rw [if_neg hc2] at h
      refine Q.map (A.bF (gI_of zm175 (e := (14, 3, .if_icmp .gt 32, [23])) rfl) (fun q => hc2 (of_decide_eq_true q))) ?_
      refine Q.run zm175 2 (i' := 10) (ls' := [some (.ref 121), none, none, none]) (st' := [.int 0, .ref 121]) rfl ?_
      obtain ⟨r5, hc4, h⟩ := bu_so h
      have hq3 : Q 2 sio tt cc d 176 0 [some (.ref 121), some (.int 0)] [] s (.inl (some (.int r5)), s) := dt176 (by omega) hl  hc4
      refine Q.callI (gC_vi zm175 (show zM175.2.2.2.2.2[10]? = some (19, 3, .invokevirtual 113, [0, 176, 1, 9]) from rfl) zm176 (hl.lt (a := 121) (by decide)) (hl.T (a := 121) (p := (9, 45)) 43 rfl rfl) rfl (show aCr 1 121 [.int 0, .ref 121] 2 = some ([some (.ref 121), some (.int 0)], []) from rfl)) hq3 ?_
      refine Q.run zm175 1 (i' := 12) (ls' := [some (.ref 121), none, none, none]) (st' := [.int 39, .int r5]) rfl ?_
      by_cases hc6 : r5 = 39
      · rw [if_pos hc6] at h
        refine Q.map (A.bT (gI_of zm175 (e := (24, 3, .if_icmp .eq 22, [23])) rfl) (decide_eq_true hc6)) ?_
        exact dt175_23 hd hl  h
      · rw [if_neg hc6] at h
        refine Q.map (A.bF (gI_of zm175 (e := (24, 3, .if_icmp .eq 22, [23])) rfl) (fun q => hc6 (of_decide_eq_true q))) ?_
        refine Q.run zm175 2 (i' := 15) (ls' := [some (.ref 121), none, none, none]) (st' := [.ref 121, .ref 121]) rfl ?_
        refine Q.map (A.gf (gI_of zm175 (e := (29, 3, .getfield 103, [9, 1])) rfl) (hl.lt (a := 121) (by decide)) (hl.T (a := 121) (p := (9, 45)) 43 rfl rfl) (by decide) rfl) ?_
        refine Q.run zm175 2 (i' := 18) (ls' := [some (.ref 121), none, none, none]) (st' := [.int ((sI s 121 1) - 1), .ref 121]) rfl ?_
        obtain ⟨r9, hc8, h⟩ := bu_so h
        have hq7 : Q 2 sio tt cc d 176 0 [some (.ref 121), some (.int ((sI s 121 1) - 1))] [] s (.inl (some (.int r9)), s) := dt176 (by omega) hl  hc8
        refine Q.callI (gC_vi zm175 (show zM175.2.2.2.2.2[18]? = some (34, 3, .invokevirtual 113, [0, 176, 1, 9]) from rfl) zm176 (hl.lt (a := 121) (by decide)) (hl.T (a := 121) (p := (9, 45)) 43 rfl rfl) rfl (show aCr 1 121 [.int ((sI s 121 1) - 1), .ref 121] 2 = some ([some (.ref 121), some (.int ((sI s 121 1) - 1))], []) from rfl)) hq7 ?_
        refine Q.run zm175 1 (i' := 20) (ls' := [some (.ref 121), none, none, none]) (st' := [.int 39, .int r9]) rfl ?_
        by_cases hc10 : r9 = 39
        · rw [if_pos hc10] at h
          refine Q.map (A.bT (gI_of zm175 (e := (39, 3, .if_icmp .eq 7, [23])) rfl) (decide_eq_true hc10)) ?_
          exact dt175_23 hd hl  h
        · rw [if_neg hc10] at h
          refine Q.map (A.bF (gI_of zm175 (e := (39, 3, .if_icmp .eq 7, [23])) rfl) (fun q => hc10 (of_decide_eq_true q))) ?_
          refine Q.run zm175 2 (i' := 24) (ls' := [some (.ref 121), none, none, none]) (st' := [.int 1]) rfl ?_
          exact dt175_24 hd hl  h
/-! 178 FormulaTreesModel.great(I)I -/
set_option maxRecDepth 100000 in
theorem zm178 : zP[178]? = some zM178 := rfl
def dm178 (x0 : Int32) : Option (Int32) :=
  if x0 < 97 then
    some x0
  else
    if 122 < x0 then
      some x0
    else
      some (x0 - 32)
set_option maxRecDepth 100000 in
theorem dt178 {sio : Bool} {tt : Nat} {cc : Nat → Nat → Int32} {d : Nat} (hd : 0 ≤ d) {x0 : Int32} {s : aS} (hl : Ly tt cc s) {o : Int32} (h : dm178  x0 = some o) : Q 2 sio tt cc d 178 0 [some (.int x0)] [] s (.inl (some (.int o)), s) := by
  unfold dm178 at h
  refine Q.run zm178 2 (i' := 2) (ls' := [some (.int x0)]) (st' := [.int 97, .int x0]) rfl ?_
  by_cases hc1 : x0 < 97
  · rw [if_pos hc1] at h
    refine Q.map (A.bT (gI_of zm178 (e := (3, 3, .if_icmp .lt 16, [10])) rfl) (decide_eq_true hc1)) ?_
    refine Q.run zm178 1 (i' := 11) (ls' := [some (.int x0)]) (st' := [.int x0]) rfl ?_
    cases h
    exact Q.ret (A.ri zm178 (show zM178.2.2.2.2.2[11]? = some (20, 1, .ireturn, []) from rfl) rfl rfl) hl
  · rw [if_neg hc1] at h
    refine Q.map (A.bF (gI_of zm178 (e := (3, 3, .if_icmp .lt 16, [10])) rfl) (fun q => hc1 (of_decide_eq_true q))) ?_
    refine Q.run zm178 2 (i' := 5) (ls' := [some (.int x0)]) (st' := [.int 122, .int x0]) rfl ?_
    by_cases hc2 : 122 < x0
    · rw [if_pos hc2] at h
      refine Q.map (A.bT (gI_of zm178 (e := (9, 3, .if_icmp .gt 10, [10])) rfl) (decide_eq_true hc2)) ?_
      refine Q.run zm178 1 (i' := 11) (ls' := [some (.int x0)]) (st' := [.int x0]) rfl ?_
      cases h
      exact Q.ret (A.ri zm178 (show zM178.2.2.2.2.2[11]? = some (20, 1, .ireturn, []) from rfl) rfl rfl) hl
    · rw [if_neg hc2] at h
      refine Q.map (A.bF (gI_of zm178 (e := (9, 3, .if_icmp .gt 10, [10])) rfl) (fun q => hc2 (of_decide_eq_true q))) ?_
      refine Q.run zm178 4 (i' := 11) (ls' := [some (.int x0)]) (st' := [.int (x0 - 32)]) rfl ?_
      cases h
      exact Q.ret (A.ri zm178 (show zM178.2.2.2.2.2[11]? = some (20, 1, .ireturn, []) from rfl) rfl rfl) hl
/-! 177 FormulaTreesModel.sheetNamed([III)I -/
set_option maxRecDepth 100000 in
theorem zm177 : zP[177]? = some zM177 := rfl
def dm177_45 (k2 : Nat → Int32 → Int32 → Int32 → aS → Option (Int32)) (b1 : Nat) (x2 : Int32) (x3 : Int32) (x4 : Int32) (x5 : Int32) (s : aS) : Option (Int32) :=
  if x5 = 0 then
    k2 b1 x2 x3 (x4 + 1) s
  else
    some x4
set_option maxRecDepth 100000 in
theorem dt177_45 {sio : Bool} {tt : Nat} {cc : Nat → Nat → Int32} {d : Nat} (hd : 1 ≤ d) {k2 : Nat → Int32 → Int32 → Int32 → aS → Option (Int32)} (hk2 : ∀ {b1 : Nat} {x2 : Int32} {x3 : Int32} {x4 : Int32} {g5 : Option Value} {g6 : Option Value} {s : aS}, Ly tt cc s → aK s b1 100 → ∀ {o : Int32}, k2 b1 x2 x3 x4 s = some o → Q 2 sio tt cc d 177 2 [some (.ref 121), some (.ref b1), some (.int x2), some (.int x3), some (.int x4), g5, g6] [] s (.inl (some (.int o)), s)) {b1 : Nat} {x2 : Int32} {x3 : Int32} {x4 : Int32} {x5 : Int32} {x6 : Int32} {s : aS} (hl : Ly tt cc s) (hk_b1 : aK s b1 100) {o : Int32} (h : dm177_45 k2 b1 x2 x3 x4 x5 s = some o) : Q 2 sio tt cc d 177 45 [some (.ref 121), some (.ref b1), some (.int x2), some (.int x3), some (.int x4), some (.int x5), some (.int x6)] [] s (.inl (some (.int o)), s) := by
  unfold dm177_45 at h
  obtain ⟨d, rfl⟩ : ∃ e, d = e + 1 := ⟨d - 1, by omega⟩
  refine Q.run zm177 1 (i' := 46) (ls' := [some (.ref 121), some (.ref b1), some (.int x2), some (.int x3), some (.int x4), some (.int x5), some (.int x6)]) (st' := [.int x5]) rfl ?_
  by_cases hc1 : x5 = 0
  · rw [if_pos hc1] at h
    refine Q.map (A.zT (gI_of zm177 (e := (87, 3, .ifCond .eq 6, [49])) rfl) (decide_eq_true hc1)) ?_
    refine Q.run zm177 2 (i' := 2) (ls' := [some (.ref 121), some (.ref b1), some (.int x2), some (.int x3), some (.int (x4 + 1)), some (.int x5), some (.int x6)]) (st' := []) rfl ?_
    exact hk2 hl hk_b1 h
  · rw [if_neg hc1] at h
    refine Q.map (A.zF (gI_of zm177 (e := (87, 3, .ifCond .eq 6, [49])) rfl) (fun q => hc1 (of_decide_eq_true q))) ?_
    refine Q.run zm177 1 (i' := 48) (ls' := [some (.ref 121), some (.ref b1), some (.int x2), some (.int x3), some (.int x4), some (.int x5), some (.int x6)]) (st' := [.int x4]) rfl ?_
    cases h
    exact Q.ret (A.ri zm177 (show zM177.2.2.2.2.2[48]? = some (92, 1, .ireturn, []) from rfl) rfl rfl) hl
def dm177_42 (k2 : Nat → Int32 → Int32 → Int32 → aS → Option (Int32)) (k18 : Nat → Int32 → Int32 → Int32 → Int32 → Int32 → aS → Option (Int32)) (b1 : Nat) (x2 : Int32) (x3 : Int32) (x4 : Int32) (x6 : Int32) (y0 : Int32) (s : aS) : Option (Int32) :=
  k18 b1 x2 x3 x4 y0 (x6 + 1) s
set_option maxRecDepth 100000 in
theorem dt177_42 {sio : Bool} {tt : Nat} {cc : Nat → Nat → Int32} {d : Nat} (hd : 1 ≤ d) {k2 : Nat → Int32 → Int32 → Int32 → aS → Option (Int32)} (hk2 : ∀ {b1 : Nat} {x2 : Int32} {x3 : Int32} {x4 : Int32} {g5 : Option Value} {g6 : Option Value} {s : aS}, Ly tt cc s → aK s b1 100 → ∀ {o : Int32}, k2 b1 x2 x3 x4 s = some o → Q 2 sio tt cc d 177 2 [some (.ref 121), some (.ref b1), some (.int x2), some (.int x3), some (.int x4), g5, g6] [] s (.inl (some (.int o)), s)) {k18 : Nat → Int32 → Int32 → Int32 → Int32 → Int32 → aS → Option (Int32)} (hk18 : ∀ {b1 : Nat} {x2 : Int32} {x3 : Int32} {x4 : Int32} {x5 : Int32} {x6 : Int32} {s : aS}, Ly tt cc s → aK s b1 100 → ∀ {o : Int32}, k18 b1 x2 x3 x4 x5 x6 s = some o → Q 2 sio tt cc d 177 18 [some (.ref 121), some (.ref b1), some (.int x2), some (.int x3), some (.int x4), some (.int x5), some (.int x6)] [] s (.inl (some (.int o)), s)) {b1 : Nat} {x2 : Int32} {x3 : Int32} {x4 : Int32} {x6 : Int32} {y0 : Int32} {x5 : Int32} {s : aS} (hl : Ly tt cc s) (hk_b1 : aK s b1 100) {o : Int32} (h : dm177_42 k2 k18 b1 x2 x3 x4 x6 y0 s = some o) : Q 2 sio tt cc d 177 42 [some (.ref 121), some (.ref b1), some (.int x2), some (.int x3), some (.int x4), some (.int x5), some (.int x6)] [.int y0] s (.inl (some (.int o)), s) := by
  unfold dm177_42 at h
  obtain ⟨d, rfl⟩ : ∃ e, d = e + 1 := ⟨d - 1, by omega⟩
  refine Q.run zm177 3 (i' := 18) (ls' := [some (.ref 121), some (.ref b1), some (.int x2), some (.int x3), some (.int x4), some (.int y0), some (.int (x6 + 1))]) (st' := []) rfl ?_
  exact hk18 hl hk_b1 h
def dm177_18 (k2 : Nat → Int32 → Int32 → Int32 → aS → Option (Int32)) : Nat → Nat → Int32 → Int32 → Int32 → Int32 → Int32 → aS → Option (Int32)
  | 0, _, _, _, _, _, _, _ => none
  | n + 1, b1, x2, x3, x4, x5, x6, s =>
    if x3 ≤ x6 then
      dm177_45 k2 b1 x2 x3 x4 x5 s
    else
      if x5 = 0 then
        dm177_45 k2 b1 x2 x3 x4 x5 s
      else
        if aB ((32 * x4) + x6) 256 then
          bu (dm178 (sI s 124 (jN ((32 * x4) + x6)))) fun r6 =>
          if aB (x2 + x6) (sT s b1).2 then
            bu (dm178 (sI s b1 (jN (x2 + x6)))) fun r10 =>
            if r6 = r10 then
              dm177_42 k2 (dm177_18 k2 n) b1 x2 x3 x4 x6 1 s
            else
              dm177_42 k2 (dm177_18 k2 n) b1 x2 x3 x4 x6 0 s
          else none
        else none
set_option maxRecDepth 100000 in
theorem dt177_18 {sio : Bool} {tt : Nat} {cc : Nat → Nat → Int32} {d : Nat} (hd : 1 ≤ d) {k2 : Nat → Int32 → Int32 → Int32 → aS → Option (Int32)} (hk2 : ∀ {b1 : Nat} {x2 : Int32} {x3 : Int32} {x4 : Int32} {g5 : Option Value} {g6 : Option Value} {s : aS}, Ly tt cc s → aK s b1 100 → ∀ {o : Int32}, k2 b1 x2 x3 x4 s = some o → Q 2 sio tt cc d 177 2 [some (.ref 121), some (.ref b1), some (.int x2), some (.int x3), some (.int x4), g5, g6] [] s (.inl (some (.int o)), s)) : ∀ (n : Nat) {b1 : Nat} {x2 : Int32} {x3 : Int32} {x4 : Int32} {x5 : Int32} {x6 : Int32} {s : aS} (_ : Ly tt cc s) (_ : aK s b1 100) {o : Int32} (_ : dm177_18 k2 n b1 x2 x3 x4 x5 x6 s = some o), Q 2 sio tt cc d 177 18 [some (.ref 121), some (.ref b1), some (.int x2), some (.int x3), some (.int x4), some (.int x5), some (.int x6)] [] s (.inl (some (.int o)), s) := by
  obtain ⟨d, rfl⟩ : ∃ e, d = e + 1 := ⟨d - 1, by omega⟩
  intro n
  induction n with
  | zero => intro b1 x2 x3 x4 x5 x6 s hl hk_b1 o h; rw [dm177_18] at h; cases h
  | succ n ih =>
    intro b1 x2 x3 x4 x5 x6 s hl hk_b1 o h
    rw [dm177_18] at h
    refine Q.run zm177 2 (i' := 20) (ls' := [some (.ref 121), some (.ref b1), some (.int x2), some (.int x3), some (.int x4), some (.int x5), some (.int x6)]) (st' := [.int x3, .int x6]) rfl ?_
    by_cases hc1 : x3 ≤ x6
    · rw [if_pos hc1] at h
      refine Q.map (A.bT (gI_of zm177 (e := (36, 3, .if_icmp .ge 49, [45])) rfl) (decide_eq_true hc1)) ?_
      exact dt177_45 hd hk2 hl hk_b1 h
    · rw [if_neg hc1] at h
      refine Q.map (A.bF (gI_of zm177 (e := (36, 3, .if_icmp .ge 49, [45])) rfl) (fun q => hc1 (of_decide_eq_true q))) ?_
      refine Q.run zm177 1 (i' := 22) (ls' := [some (.ref 121), some (.ref b1), some (.int x2), some (.int x3), some (.int x4), some (.int x5), some (.int x6)]) (st' := [.int x5]) rfl ?_
      by_cases hc2 : x5 = 0
      · rw [if_pos hc2] at h
        refine Q.map (A.zT (gI_of zm177 (e := (41, 3, .ifCond .eq 44, [45])) rfl) (decide_eq_true hc2)) ?_
        exact dt177_45 hd hk2 hl hk_b1 h
      · rw [if_neg hc2] at h
        refine Q.map (A.zF (gI_of zm177 (e := (41, 3, .ifCond .eq 44, [45])) rfl) (fun q => hc2 (of_decide_eq_true q))) ?_
        refine Q.run zm177 1 (i' := 24) (ls' := [some (.ref 121), some (.ref b1), some (.int x2), some (.int x3), some (.int x4), some (.int x5), some (.int x6)]) (st' := [.ref 121]) rfl ?_
        refine Q.map (A.gf (gI_of zm177 (e := (45, 3, .getfield 16, [9, 5])) rfl) (hl.lt (a := 121) (by decide)) (hl.T (a := 121) (p := (9, 45)) 43 rfl rfl) (by decide) (hl.R 25 rfl)) ?_
        refine Q.run zm177 5 (i' := 30) (ls' := [some (.ref 121), some (.ref b1), some (.int x2), some (.int x3), some (.int x4), some (.int x5), some (.int x6)]) (st' := [.int ((32 * x4) + x6), .ref 124]) rfl ?_
        obtain ⟨hc3, h⟩ := ite_so h
        refine Q.map (A.ia (gI_of zm177 (e := (56, 1, .iaload, [])) rfl) (hl.lt (a := 124) (by decide)) (hl.T (a := 124) (p := (100, 256)) 46 rfl rfl) hc3) ?_
        obtain ⟨r6, hc5, h⟩ := bu_so h
        have hq4 : Q 2 sio tt cc d 178 0 [some (.int (sI s 124 (jN ((32 * x4) + x6))))] [] s (.inl (some (.int r6)), s) := dt178 (by omega) hl  hc5
        refine Q.callI (gC_st zm177 (show zM177.2.2.2.2.2[31]? = some (57, 3, .invokestatic 109, [0, 178, 1]) from rfl) zm178 (show aC 1 [.int (sI s 124 (jN ((32 * x4) + x6)))] 1 = some ([some (.int (sI s 124 (jN ((32 * x4) + x6))))], []) from rfl)) hq4 ?_
        refine Q.run zm177 4 (i' := 36) (ls' := [some (.ref 121), some (.ref b1), some (.int x2), some (.int x3), some (.int x4), some (.int x5), some (.int x6)]) (st' := [.int (x2 + x6), .ref b1, .int r6]) rfl ?_
        obtain ⟨hc7, h⟩ := ite_so h
        refine Q.map (A.ia (gI_of zm177 (e := (65, 1, .iaload, [])) rfl) hk_b1.1 (pr2 hk_b1.2) hc7) ?_
        obtain ⟨r10, hc9, h⟩ := bu_so h
        have hq8 : Q 2 sio tt cc d 178 0 [some (.int (sI s b1 (jN (x2 + x6))))] [] s (.inl (some (.int r10)), s) := dt178 (by omega) hl  hc9
        refine Q.callI (gC_st zm177 (show zM177.2.2.2.2.2[37]? = some (66, 3, .invokestatic 109, [0, 178, 1]) from rfl) zm178 (show aC 1 [.int (sI s b1 (jN (x2 + x6))), .int r6] 1 = some ([some (.int (sI s b1 (jN (x2 + x6))))], [.int r6]) from rfl)) hq8 ?_
        by_cases hc11 : r6 = r10
        · rw [if_pos hc11] at h
          refine Q.map (A.bF (gI_of zm177 (e := (69, 3, .if_icmp .ne 7, [41])) rfl) (fun q => of_decide_eq_true q hc11)) ?_
          refine Q.run zm177 2 (i' := 42) (ls' := [some (.ref 121), some (.ref b1), some (.int x2), some (.int x3), some (.int x4), some (.int x5), some (.int x6)]) (st' := [.int 1]) rfl ?_
          exact dt177_42 hd hk2 ih hl hk_b1 h
        · rw [if_neg hc11] at h
          refine Q.map (A.bT (gI_of zm177 (e := (69, 3, .if_icmp .ne 7, [41])) rfl) (decide_eq_true hc11)) ?_
          refine Q.run zm177 1 (i' := 42) (ls' := [some (.ref 121), some (.ref b1), some (.int x2), some (.int x3), some (.int x4), some (.int x5), some (.int x6)]) (st' := [.int 0]) rfl ?_
          exact dt177_42 hd hk2 ih hl hk_b1 h
def dm177_15 (k2 : Nat → Int32 → Int32 → Int32 → aS → Option (Int32)) (b1 : Nat) (x2 : Int32) (x3 : Int32) (x4 : Int32) (y0 : Int32) (s : aS) : Option (Int32) :=
  dm177_18 k2 5000 b1 x2 x3 x4 y0 0 s
set_option maxRecDepth 100000 in
theorem dt177_15 {sio : Bool} {tt : Nat} {cc : Nat → Nat → Int32} {d : Nat} (hd : 1 ≤ d) {k2 : Nat → Int32 → Int32 → Int32 → aS → Option (Int32)} (hk2 : ∀ {b1 : Nat} {x2 : Int32} {x3 : Int32} {x4 : Int32} {g5 : Option Value} {g6 : Option Value} {s : aS}, Ly tt cc s → aK s b1 100 → ∀ {o : Int32}, k2 b1 x2 x3 x4 s = some o → Q 2 sio tt cc d 177 2 [some (.ref 121), some (.ref b1), some (.int x2), some (.int x3), some (.int x4), g5, g6] [] s (.inl (some (.int o)), s)) {b1 : Nat} {x2 : Int32} {x3 : Int32} {x4 : Int32} {y0 : Int32} {g5 : Option Value} {g6 : Option Value} {s : aS} (hl : Ly tt cc s) (hk_b1 : aK s b1 100) {o : Int32} (h : dm177_15 k2 b1 x2 x3 x4 y0 s = some o) : Q 2 sio tt cc d 177 15 [some (.ref 121), some (.ref b1), some (.int x2), some (.int x3), some (.int x4), g5, g6] [.int y0] s (.inl (some (.int o)), s) := by
  unfold dm177_15 at h
  obtain ⟨d, rfl⟩ : ∃ e, d = e + 1 := ⟨d - 1, by omega⟩
  refine Q.run zm177 3 (i' := 18) (ls' := [some (.ref 121), some (.ref b1), some (.int x2), some (.int x3), some (.int x4), some (.int y0), some (.int 0)]) (st' := []) rfl ?_
  exact dt177_18 hd hk2 _ hl hk_b1 h
def dm177_2 : Nat → Nat → Int32 → Int32 → Int32 → aS → Option (Int32)
  | 0, _, _, _, _, _ => none
  | n + 1, b1, x2, x3, x4, s =>
    if (sI s 121 3) ≤ x4 then
      some (-1)
    else
      if aB x4 8 then
        if (sI s 123 (jN x4)) = x3 then
          dm177_15 (dm177_2 n) b1 x2 x3 x4 1 s
        else
          dm177_15 (dm177_2 n) b1 x2 x3 x4 0 s
      else none
set_option maxRecDepth 100000 in
theorem dt177_2 {sio : Bool} {tt : Nat} {cc : Nat → Nat → Int32} {d : Nat} (hd : 1 ≤ d) : ∀ (n : Nat) {b1 : Nat} {x2 : Int32} {x3 : Int32} {x4 : Int32} {g5 : Option Value} {g6 : Option Value} {s : aS} (_ : Ly tt cc s) (_ : aK s b1 100) {o : Int32} (_ : dm177_2  n b1 x2 x3 x4 s = some o), Q 2 sio tt cc d 177 2 [some (.ref 121), some (.ref b1), some (.int x2), some (.int x3), some (.int x4), g5, g6] [] s (.inl (some (.int o)), s) := by
  obtain ⟨d, rfl⟩ : ∃ e, d = e + 1 := ⟨d - 1, by omega⟩
  intro n
  induction n with
  | zero => intro b1 x2 x3 x4 g5 g6 s hl hk_b1 o h; rw [dm177_2] at h; cases h
  | succ n ih =>
    intro b1 x2 x3 x4 g5 g6 s hl hk_b1 o h
    rw [dm177_2] at h
    refine Q.run zm177 2 (i' := 4) (ls' := [some (.ref 121), some (.ref b1), some (.int x2), some (.int x3), some (.int x4), g5, g6]) (st' := [.ref 121, .int x4]) rfl ?_
    refine Q.map (A.gf (gI_of zm177 (e := (6, 3, .getfield 106, [9, 3])) rfl) (hl.lt (a := 121) (by decide)) (hl.T (a := 121) (p := (9, 45)) 43 rfl rfl) (by decide) rfl) ?_
    by_cases hc1 : (sI s 121 3) ≤ x4
    · rw [if_pos hc1] at h
      refine Q.map (A.bT (gI_of zm177 (e := (9, 3, .if_icmp .ge 90, [51])) rfl) (decide_eq_true hc1)) ?_
      refine Q.run zm177 1 (i' := 52) (ls' := [some (.ref 121), some (.ref b1), some (.int x2), some (.int x3), some (.int x4), g5, g6]) (st' := [.int (-1)]) rfl ?_
      cases h
      exact Q.ret (A.ri zm177 (show zM177.2.2.2.2.2[52]? = some (100, 1, .ireturn, []) from rfl) rfl rfl) hl
    · rw [if_neg hc1] at h
      refine Q.map (A.bF (gI_of zm177 (e := (9, 3, .if_icmp .ge 90, [51])) rfl) (fun q => hc1 (of_decide_eq_true q))) ?_
      refine Q.run zm177 1 (i' := 7) (ls' := [some (.ref 121), some (.ref b1), some (.int x2), some (.int x3), some (.int x4), g5, g6]) (st' := [.ref 121]) rfl ?_
      refine Q.map (A.gf (gI_of zm177 (e := (13, 3, .getfield 13, [9, 4])) rfl) (hl.lt (a := 121) (by decide)) (hl.T (a := 121) (p := (9, 45)) 43 rfl rfl) (by decide) (hl.R 24 rfl)) ?_
      refine Q.run zm177 1 (i' := 9) (ls' := [some (.ref 121), some (.ref b1), some (.int x2), some (.int x3), some (.int x4), g5, g6]) (st' := [.int x4, .ref 123]) rfl ?_
      obtain ⟨hc2, h⟩ := ite_so h
      refine Q.map (A.ia (gI_of zm177 (e := (18, 1, .iaload, [])) rfl) (hl.lt (a := 123) (by decide)) (hl.T (a := 123) (p := (100, 8)) 45 rfl rfl) hc2) ?_
      refine Q.run zm177 1 (i' := 11) (ls' := [some (.ref 121), some (.ref b1), some (.int x2), some (.int x3), some (.int x4), g5, g6]) (st' := [.int x3, .int (sI s 123 (jN x4))]) rfl ?_
      by_cases hc3 : (sI s 123 (jN x4)) = x3
      · rw [if_pos hc3] at h
        refine Q.map (A.bF (gI_of zm177 (e := (20, 3, .if_icmp .ne 7, [14])) rfl) (fun q => of_decide_eq_true q hc3)) ?_
        refine Q.run zm177 2 (i' := 15) (ls' := [some (.ref 121), some (.ref b1), some (.int x2), some (.int x3), some (.int x4), g5, g6]) (st' := [.int 1]) rfl ?_
        exact dt177_15 hd ih hl hk_b1 h
      · rw [if_neg hc3] at h
        refine Q.map (A.bT (gI_of zm177 (e := (20, 3, .if_icmp .ne 7, [14])) rfl) (decide_eq_true hc3)) ?_
        refine Q.run zm177 1 (i' := 15) (ls' := [some (.ref 121), some (.ref b1), some (.int x2), some (.int x3), some (.int x4), g5, g6]) (st' := [.int 0]) rfl ?_
        exact dt177_15 hd ih hl hk_b1 h
def dm177 (b1 : Nat) (x2 : Int32) (x3 : Int32) (s : aS) : Option (Int32) :=
  dm177_2 5000 b1 x2 x3 0 s
set_option maxRecDepth 100000 in
theorem dt177 {sio : Bool} {tt : Nat} {cc : Nat → Nat → Int32} {d : Nat} (hd : 1 ≤ d) {b1 : Nat} {x2 : Int32} {x3 : Int32} {s : aS} (hl : Ly tt cc s) (hk_b1 : aK s b1 100) {o : Int32} (h : dm177  b1 x2 x3 s = some o) : Q 2 sio tt cc d 177 0 [some (.ref 121), some (.ref b1), some (.int x2), some (.int x3), none, none, none] [] s (.inl (some (.int o)), s) := by
  unfold dm177 at h
  obtain ⟨d, rfl⟩ : ∃ e, d = e + 1 := ⟨d - 1, by omega⟩
  refine Q.run zm177 2 (i' := 2) (ls' := [some (.ref 121), some (.ref b1), some (.int x2), some (.int x3), some (.int 0), none, none]) (st' := []) rfl ?_
  exact dt177_2 hd _ hl hk_b1 h
/-! 179 FormulaTreesModel.setName(I)V -/
set_option maxRecDepth 100000 in
theorem zm179 : zP[179]? = some zM179 := rfl
def dm179_8 : Nat → Int32 → Int32 → aS → Option (aS)
  | 0, _, _, _ => none
  | n + 1, x1, x2, s =>
    if (sI s 121 1) ≤ x2 then
      some s
    else
      if aB x2 256 then
        if aB ((32 * x1) + x2) 256 then
          nx (wI s 124 (jN ((32 * x1) + x2)) (sI s 122 (jN x2))) fun s4 =>
          dm179_8 n x1 (x2 + 1) s4
        else none
      else none
set_option maxRecDepth 100000 in
theorem dt179_8 {sio : Bool} {tt : Nat} {cc : Nat → Nat → Int32} {d : Nat} (hd : 0 ≤ d) : ∀ (n : Nat) {x1 : Int32} {x2 : Int32} {s : aS} (_ : Ly tt cc s) {o : aS} (_ : dm179_8  n x1 x2 s = some o), Q 2 sio tt cc d 179 8 [some (.ref 121), some (.int x1), some (.int x2)] [] s (.inl none, o) := by
  intro n
  induction n with
  | zero => intro x1 x2 s hl o h; rw [dm179_8] at h; cases h
  | succ n ih =>
    intro x1 x2 s hl o h
    rw [dm179_8] at h
    refine Q.run zm179 2 (i' := 10) (ls' := [some (.ref 121), some (.int x1), some (.int x2)]) (st' := [.ref 121, .int x2]) rfl ?_
    refine Q.map (A.gf (gI_of zm179 (e := (14, 3, .getfield 103, [9, 1])) rfl) (hl.lt (a := 121) (by decide)) (hl.T (a := 121) (p := (9, 45)) 43 rfl rfl) (by decide) rfl) ?_
    by_cases hc1 : (sI s 121 1) ≤ x2
    · rw [if_pos hc1] at h
      refine Q.map (A.bT (gI_of zm179 (e := (17, 3, .if_icmp .ge 26, [26])) rfl) (decide_eq_true hc1)) ?_
      cases h
      exact Q.ret (A.rv zm179 (show zM179.2.2.2.2.2[26]? = some (43, 1, .return_, []) from rfl) rfl) hl
    · rw [if_neg hc1] at h
      refine Q.map (A.bF (gI_of zm179 (e := (17, 3, .if_icmp .ge 26, [26])) rfl) (fun q => hc1 (of_decide_eq_true q))) ?_
      refine Q.run zm179 1 (i' := 13) (ls' := [some (.ref 121), some (.int x1), some (.int x2)]) (st' := [.ref 121]) rfl ?_
      refine Q.map (A.gf (gI_of zm179 (e := (21, 3, .getfield 16, [9, 5])) rfl) (hl.lt (a := 121) (by decide)) (hl.T (a := 121) (p := (9, 45)) 43 rfl rfl) (by decide) (hl.R 25 rfl)) ?_
      refine Q.run zm179 6 (i' := 20) (ls' := [some (.ref 121), some (.int x1), some (.int x2)]) (st' := [.ref 121, .int ((32 * x1) + x2), .ref 124]) rfl ?_
      refine Q.map (A.gf (gI_of zm179 (e := (31, 3, .getfield 7, [9, 2])) rfl) (hl.lt (a := 121) (by decide)) (hl.T (a := 121) (p := (9, 45)) 43 rfl rfl) (by decide) (hl.R 23 rfl)) ?_
      refine Q.run zm179 1 (i' := 22) (ls' := [some (.ref 121), some (.int x1), some (.int x2)]) (st' := [.int x2, .ref 122, .int ((32 * x1) + x2), .ref 124]) rfl ?_
      obtain ⟨hc2, h⟩ := ite_so h
      refine Q.map (A.ia (gI_of zm179 (e := (35, 1, .iaload, [])) rfl) (hl.lt (a := 122) (by decide)) (hl.T (a := 122) (p := (100, 256)) 44 rfl rfl) hc2) ?_
      obtain ⟨hc3, h⟩ := ite_so h
      obtain ⟨s4, hs5, h⟩ := nx_so h
      refine Q.is hs5 rfl (gI_of zm179 (e := (36, 1, .iastore, [])) rfl) (hl.lt (a := 124) (by decide)) (by decide) (hl.T (a := 124) (p := (100, 256)) 46 rfl rfl) hc3 ?_
      have hl6 : Ly tt cc s4 := by rw [hs5]; exact hl.wId (by decide)
      refine Q.run zm179 2 (i' := 8) (ls' := [some (.ref 121), some (.int x1), some (.int (x2 + 1))]) (st' := []) rfl ?_
      exact ih hl6  h
def dm179 (x1 : Int32) (s : aS) : Option (aS) :=
  if aB x1 8 then
    nx (wI s 123 (jN x1) (sI s 121 1)) fun s2 =>
    dm179_8 5000 x1 0 s2
  else none
set_option maxRecDepth 100000 in
theorem dt179 {sio : Bool} {tt : Nat} {cc : Nat → Nat → Int32} {d : Nat} (hd : 0 ≤ d) {x1 : Int32} {s : aS} (hl : Ly tt cc s) {o : aS} (h : dm179  x1 s = some o) : Q 2 sio tt cc d 179 0 [some (.ref 121), some (.int x1), none] [] s (.inl none, o) := by
  unfold dm179 at h
  refine Q.run zm179 1 (i' := 1) (ls' := [some (.ref 121), some (.int x1), none]) (st' := [.ref 121]) rfl ?_
  refine Q.map (A.gf (gI_of zm179 (e := (1, 3, .getfield 13, [9, 4])) rfl) (hl.lt (a := 121) (by decide)) (hl.T (a := 121) (p := (9, 45)) 43 rfl rfl) (by decide) (hl.R 24 rfl)) ?_
  refine Q.run zm179 2 (i' := 4) (ls' := [some (.ref 121), some (.int x1), none]) (st' := [.ref 121, .int x1, .ref 123]) rfl ?_
  refine Q.map (A.gf (gI_of zm179 (e := (6, 3, .getfield 103, [9, 1])) rfl) (hl.lt (a := 121) (by decide)) (hl.T (a := 121) (p := (9, 45)) 43 rfl rfl) (by decide) rfl) ?_
  obtain ⟨hc1, h⟩ := ite_so h
  obtain ⟨s2, hs3, h⟩ := nx_so h
  refine Q.is hs3 rfl (gI_of zm179 (e := (9, 1, .iastore, [])) rfl) (hl.lt (a := 123) (by decide)) (by decide) (hl.T (a := 123) (p := (100, 8)) 45 rfl rfl) hc1 ?_
  have hl4 : Ly tt cc s2 := by rw [hs3]; exact hl.wId (by decide)
  refine Q.run zm179 2 (i' := 8) (ls' := [some (.ref 121), some (.int x1), some (.int 0)]) (st' := []) rfl ?_
  exact dt179_8 hd _ hl4  h
end
section
/-! 174 FormulaTreesModel.sheet()I -/
set_option maxRecDepth 100000 in
theorem zm174 : zP[174]? = some zM174 := rfl
def dm174_21 (y1 : Int32) (s : aS) : Option (Int32 × aS) :=
  nx (wI s 121 0 y1) fun s1 =>
  if (sI s1 121 0) ≤ 0 then
    bu (dm179 (sI s1 121 3) s1) fun s7 =>
    nx (wI s7 121 3 ((sI s7 121 3) + 1)) fun s8 =>
    some ((sI s8 121 3) - 1, s8)
  else
    some (0, s1)
set_option maxRecDepth 100000 in
theorem dt174_21 {sio : Bool} {tt : Nat} {cc : Nat → Nat → Int32} {d : Nat} (hd : 2 ≤ d) {y1 : Int32} {s : aS} (hl : Ly tt cc s) {o : Int32 × aS} (h : dm174_21  y1 s = some o) : Q 2 sio tt cc d 174 21 [some (.ref 121)] [.int y1, .ref 121] s (.inl (some (.int o.1)), o.2) := by
  unfold dm174_21 at h
  obtain ⟨d, rfl⟩ : ∃ e, d = e + 1 := ⟨d - 1, by omega⟩
  obtain ⟨s1, hs2, h⟩ := nx_so h
  refine Q.pf hs2 rfl (gI_of zm174 (e := (42, 3, .putfield 89, [9, 0, 0])) rfl) (hl.lt (a := 121) (by decide)) (by decide) (hl.T (a := 121) (p := (9, 45)) 43 rfl rfl) (by decide) rfl rfl ?_
  have hl3 : Ly tt cc s1 := by rw [hs2]; exact hl.wId (by decide)
  refine Q.run zm174 1 (i' := 23) (ls' := [some (.ref 121)]) (st' := [.ref 121]) rfl ?_
  refine Q.map (A.gf (gI_of zm174 (e := (46, 3, .getfield 89, [9, 0])) rfl) (hl3.lt (a := 121) (by decide)) (hl3.T (a := 121) (p := (9, 45)) 43 rfl rfl) (by decide) rfl) ?_
  by_cases hc4 : (sI s1 121 0) ≤ 0
  · rw [if_pos hc4] at h
    refine Q.map (A.zT (gI_of zm174 (e := (49, 3, .ifCond .le 5, [27])) rfl) (decide_eq_true hc4)) ?_
    refine Q.run zm174 2 (i' := 29) (ls' := [some (.ref 121)]) (st' := [.ref 121, .ref 121]) rfl ?_
    refine Q.map (A.gf (gI_of zm174 (e := (56, 3, .getfield 106, [9, 3])) rfl) (hl3.lt (a := 121) (by decide)) (hl3.T (a := 121) (p := (9, 45)) 43 rfl rfl) (by decide) rfl) ?_
    obtain ⟨s7, hc6, h⟩ := bu_so h
    have hq5 : Q 2 sio tt cc d 179 0 [some (.ref 121), some (.int (sI s1 121 3)), none] [] s1 (.inl none, s7) := dt179 (by omega) hl3  hc6
    refine Q.callV (gC_vi zm174 (show zM174.2.2.2.2.2[30]? = some (59, 3, .invokevirtual 124, [0, 179, 1, 9]) from rfl) zm179 (hl3.lt (a := 121) (by decide)) (hl3.T (a := 121) (p := (9, 45)) 43 rfl rfl) rfl (show aCr 1 121 [.int (sI s1 121 3), .ref 121] 3 = some ([some (.ref 121), some (.int (sI s1 121 3)), none], []) from rfl)) hq5 ?_
    refine Q.run zm174 2 (i' := 33) (ls' := [some (.ref 121)]) (st' := [.ref 121, .ref 121]) rfl ?_
    refine Q.map (A.gf (gI_of zm174 (e := (64, 3, .getfield 106, [9, 3])) rfl) (hq5.1.lt (a := 121) (by decide)) (hq5.1.T (a := 121) (p := (9, 45)) 43 rfl rfl) (by decide) rfl) ?_
    refine Q.run zm174 2 (i' := 36) (ls' := [some (.ref 121)]) (st' := [.int ((sI s7 121 3) + 1), .ref 121]) rfl ?_
    obtain ⟨s8, hs9, h⟩ := nx_so h
    refine Q.pf hs9 rfl (gI_of zm174 (e := (69, 3, .putfield 106, [9, 3, 0])) rfl) (hq5.1.lt (a := 121) (by decide)) (by decide) (hq5.1.T (a := 121) (p := (9, 45)) 43 rfl rfl) (by decide) rfl rfl ?_
    have hl10 : Ly tt cc s8 := by rw [hs9]; exact hq5.1.wId (by decide)
    refine Q.run zm174 1 (i' := 38) (ls' := [some (.ref 121)]) (st' := [.ref 121]) rfl ?_
    refine Q.map (A.gf (gI_of zm174 (e := (73, 3, .getfield 106, [9, 3])) rfl) (hl10.lt (a := 121) (by decide)) (hl10.T (a := 121) (p := (9, 45)) 43 rfl rfl) (by decide) rfl) ?_
    refine Q.run zm174 2 (i' := 41) (ls' := [some (.ref 121)]) (st' := [.int ((sI s8 121 3) - 1)]) rfl ?_
    cases h
    exact Q.ret (A.ri zm174 (show zM174.2.2.2.2.2[41]? = some (78, 1, .ireturn, []) from rfl) rfl rfl) hl10
  · rw [if_neg hc4] at h
    refine Q.map (A.zF (gI_of zm174 (e := (49, 3, .ifCond .le 5, [27])) rfl) (fun q => hc4 (of_decide_eq_true q))) ?_
    refine Q.run zm174 1 (i' := 26) (ls' := [some (.ref 121)]) (st' := [.int 0]) rfl ?_
    cases h
    exact Q.ret (A.ri zm174 (show zM174.2.2.2.2.2[26]? = some (53, 1, .ireturn, []) from rfl) rfl rfl) hl3
def dm174_12 (s : aS) : Option (Int32 × aS) :=
  dm174_21 1 s
set_option maxRecDepth 100000 in
theorem dt174_12 {sio : Bool} {tt : Nat} {cc : Nat → Nat → Int32} {d : Nat} (hd : 2 ≤ d) {s : aS} (hl : Ly tt cc s) {o : Int32 × aS} (h : dm174_12  s = some o) : Q 2 sio tt cc d 174 12 [some (.ref 121)] [.ref 121] s (.inl (some (.int o.1)), o.2) := by
  unfold dm174_12 at h
  obtain ⟨d, rfl⟩ : ∃ e, d = e + 1 := ⟨d - 1, by omega⟩
  refine Q.run zm174 2 (i' := 21) (ls' := [some (.ref 121)]) (st' := [.int 1, .ref 121]) rfl ?_
  exact dt174_21 hd hl  h
def dm174 (s : aS) : Option (Int32 × aS) :=
  bu (dm175 s) fun r3 =>
  if r3 = 0 then
    dm174_12 s
  else
    bu (dm177 122 0 (sI s 121 1) s) fun r7 =>
    if r7 < 0 then
      if (sI s 121 3) = 8 then
        dm174_21 2 s
      else
        dm174_21 0 s
    else
      dm174_12 s
set_option maxRecDepth 100000 in
theorem dt174 {sio : Bool} {tt : Nat} {cc : Nat → Nat → Int32} {d : Nat} (hd : 2 ≤ d) {s : aS} (hl : Ly tt cc s) {o : Int32 × aS} (h : dm174  s = some o) : Q 2 sio tt cc d 174 0 [some (.ref 121)] [] s (.inl (some (.int o.1)), o.2) := by
  unfold dm174 at h
  obtain ⟨d, rfl⟩ : ∃ e, d = e + 1 := ⟨d - 1, by omega⟩
  refine Q.run zm174 2 (i' := 2) (ls' := [some (.ref 121)]) (st' := [.ref 121, .ref 121]) rfl ?_
  obtain ⟨r3, hc2, h⟩ := bu_so h
  have hq1 : Q 2 sio tt cc d 175 0 [some (.ref 121), none, none, none] [] s (.inl (some (.int r3)), s) := dt175 (by omega) hl  hc2
  refine Q.callI (gC_vi zm174 (show zM174.2.2.2.2.2[2]? = some (2, 3, .invokevirtual 116, [0, 175, 0, 9]) from rfl) zm175 (hl.lt (a := 121) (by decide)) (hl.T (a := 121) (p := (9, 45)) 43 rfl rfl) rfl (show aCr 0 121 [.ref 121, .ref 121] 4 = some ([some (.ref 121), none, none, none], [.ref 121]) from rfl)) hq1 ?_
  by_cases hc4 : r3 = 0
  · rw [if_pos hc4] at h
    refine Q.map (A.zT (gI_of zm174 (e := (5, 3, .ifCond .eq 19, [12])) rfl) (decide_eq_true hc4)) ?_
    exact dt174_12 hd hl  h
  · rw [if_neg hc4] at h
    refine Q.map (A.zF (gI_of zm174 (e := (5, 3, .ifCond .eq 19, [12])) rfl) (fun q => hc4 (of_decide_eq_true q))) ?_
    refine Q.run zm174 2 (i' := 6) (ls' := [some (.ref 121)]) (st' := [.ref 121, .ref 121, .ref 121]) rfl ?_
    refine Q.map (A.gf (gI_of zm174 (e := (10, 3, .getfield 7, [9, 2])) rfl) (hl.lt (a := 121) (by decide)) (hl.T (a := 121) (p := (9, 45)) 43 rfl rfl) (by decide) (hl.R 23 rfl)) ?_
    refine Q.run zm174 2 (i' := 9) (ls' := [some (.ref 121)]) (st' := [.ref 121, .int 0, .ref 122, .ref 121, .ref 121]) rfl ?_
    refine Q.map (A.gf (gI_of zm174 (e := (15, 3, .getfield 103, [9, 1])) rfl) (hl.lt (a := 121) (by decide)) (hl.T (a := 121) (p := (9, 45)) 43 rfl rfl) (by decide) rfl) ?_
    obtain ⟨r7, hc6, h⟩ := bu_so h
    have hq5 : Q 2 sio tt cc d 177 0 [some (.ref 121), some (.ref 122), some (.int 0), some (.int (sI s 121 1)), none, none, none] [] s (.inl (some (.int r7)), s) := dt177 (by omega) hl (hl.Kd (a := 122) (c := 100) (n := 256) 44 rfl rfl (by decide)) hc6
    refine Q.callI (gC_vi zm174 (show zM174.2.2.2.2.2[10]? = some (18, 3, .invokevirtual 120, [0, 177, 3, 9]) from rfl) zm177 (hl.lt (a := 121) (by decide)) (hl.T (a := 121) (p := (9, 45)) 43 rfl rfl) rfl (show aCr 3 121 [.int (sI s 121 1), .int 0, .ref 122, .ref 121, .ref 121] 7 = some ([some (.ref 121), some (.ref 122), some (.int 0), some (.int (sI s 121 1)), none, none, none], [.ref 121]) from rfl)) hq5 ?_
    by_cases hc8 : r7 < 0
    · rw [if_pos hc8] at h
      refine Q.map (A.zT (gI_of zm174 (e := (21, 3, .ifCond .lt 7, [14])) rfl) (decide_eq_true hc8)) ?_
      refine Q.run zm174 1 (i' := 15) (ls' := [some (.ref 121)]) (st' := [.ref 121, .ref 121]) rfl ?_
      refine Q.map (A.gf (gI_of zm174 (e := (29, 3, .getfield 106, [9, 3])) rfl) (hl.lt (a := 121) (by decide)) (hl.T (a := 121) (p := (9, 45)) 43 rfl rfl) (by decide) rfl) ?_
      refine Q.run zm174 1 (i' := 17) (ls' := [some (.ref 121)]) (st' := [.int 8, .int (sI s 121 3), .ref 121]) rfl ?_
      by_cases hc9 : (sI s 121 3) = 8
      · rw [if_pos hc9] at h
        refine Q.map (A.bF (gI_of zm174 (e := (34, 3, .if_icmp .ne 7, [20])) rfl) (fun q => of_decide_eq_true q hc9)) ?_
        refine Q.run zm174 2 (i' := 21) (ls' := [some (.ref 121)]) (st' := [.int 2, .ref 121]) rfl ?_
        exact dt174_21 hd hl  h
      · rw [if_neg hc9] at h
        refine Q.map (A.bT (gI_of zm174 (e := (34, 3, .if_icmp .ne 7, [20])) rfl) (decide_eq_true hc9)) ?_
        refine Q.run zm174 1 (i' := 21) (ls' := [some (.ref 121)]) (st' := [.int 0, .ref 121]) rfl ?_
        exact dt174_21 hd hl  h
    · rw [if_neg hc8] at h
      refine Q.map (A.zF (gI_of zm174 (e := (21, 3, .ifCond .lt 7, [14])) rfl) (fun q => hc8 (of_decide_eq_true q))) ?_
      exact dt174_12 hd hl  h
/-! 51 FormulaTrees.rename(I)V -/
set_option maxRecDepth 100000 in
theorem zm51 : zP[51]? = some zM51 := rfl
def dm51 (x1 : Int32) (s : aS) : Option (xZ × aS) :=
  bu (dm40 x1 s) fun r3 =>
  if r3 = 0 then
    some (.inr 2, nw s 82 0)
  else
    bu (dm31 79 x1 s) fun r7 =>
    if r7 = 0 then
      some (.inr 0, nw s 80 0)
    else
      bu (dm39 x1 79 s) fun s11 =>
      some (.inl none, s11)
set_option maxRecDepth 100000 in
theorem dt51 {sio : Bool} {tt : Nat} {cc : Nat → Nat → Int32} {d : Nat} (hd : 9 ≤ d) {x1 : Int32} {s : aS} (hl : Ly tt cc s) {o : xZ × aS} (h : dm51  x1 s = some o) : Q 1 sio tt cc d 51 0 [some (.ref 78), some (.int x1)] [] s o := by
  unfold dm51 at h
  obtain ⟨d, rfl⟩ : ∃ e, d = e + 1 := ⟨d - 1, by omega⟩
  refine Q.run zm51 1 (i' := 1) (ls' := [some (.ref 78), some (.int x1)]) (st' := [.ref 78]) rfl ?_
  refine Q.map (A.gf (gI_of zm51 (e := (1, 3, .getfield 21, [0, 1])) rfl) (hl.lt (a := 78) (by decide)) (hl.T (a := 78) (p := (0, 7)) 0 rfl rfl) (by decide) (hl.R 1 rfl)) ?_
  refine Q.run zm51 1 (i' := 3) (ls' := [some (.ref 78), some (.int x1)]) (st' := [.int x1, .ref 81]) rfl ?_
  obtain ⟨r3, hc2, h⟩ := bu_so h
  have hq1 : Q 1 sio tt cc d 40 0 [some (.ref 81), some (.int x1)] [] s (.inl (some (.int r3)), s) := dt40 (by omega) hl  hc2
  refine Q.callI (gC_vi zm51 (show zM51.2.2.2.2.2[3]? = some (5, 3, .invokevirtual 96, [0, 40, 1, 2]) from rfl) zm40 (hl.lt (a := 81) (by decide)) (hl.T (a := 81) (p := (2, 3)) 3 rfl rfl) rfl (show aCr 1 81 [.int x1, .ref 81] 2 = some ([some (.ref 81), some (.int x1)], []) from rfl)) hq1 ?_
  by_cases hc4 : r3 = 0
  · rw [if_pos hc4] at h
    refine Q.map (A.zF (gI_of zm51 (e := (8, 3, .ifCond .ne 13, [10])) rfl) (fun q => of_decide_eq_true q hc4)) ?_
    cases h
    exact Q.t zm51 (show zM51.2.2.2.2.2[5]? = some (11, 3, .new 100, [202]) from rfl) rfl rfl hl.gL (by omega) hl
  · rw [if_neg hc4] at h
    refine Q.map (A.zT (gI_of zm51 (e := (8, 3, .ifCond .ne 13, [10])) rfl) (decide_eq_true hc4)) ?_
    refine Q.run zm51 1 (i' := 11) (ls' := [some (.ref 78), some (.int x1)]) (st' := [.ref 78]) rfl ?_
    refine Q.map (A.gf (gI_of zm51 (e := (22, 3, .getfield 21, [0, 1])) rfl) (hl.lt (a := 78) (by decide)) (hl.T (a := 78) (p := (0, 7)) 0 rfl rfl) (by decide) (hl.R 1 rfl)) ?_
    refine Q.run zm51 1 (i' := 13) (ls' := [some (.ref 78), some (.int x1)]) (st' := [.ref 78, .ref 81]) rfl ?_
    refine Q.map (A.gf (gI_of zm51 (e := (26, 3, .getfield 14, [0, 0])) rfl) (hl.lt (a := 78) (by decide)) (hl.T (a := 78) (p := (0, 7)) 0 rfl rfl) (by decide) (hl.R 0 rfl)) ?_
    refine Q.run zm51 1 (i' := 15) (ls' := [some (.ref 78), some (.int x1)]) (st' := [.int x1, .ref 79, .ref 81]) rfl ?_
    obtain ⟨r7, hc6, h⟩ := bu_so h
    have hq5 : Q 1 sio tt cc d 31 0 [some (.ref 81), some (.ref 79), some (.int x1), none] [] s (.inl (some (.int r7)), s) := dt31 (by omega) hl (hl.Kd (a := 79) (c := 1) (n := 2) 1 rfl rfl (by decide)) hc6
    refine Q.callI (gC_vi zm51 (show zM51.2.2.2.2.2[15]? = some (30, 3, .invokevirtual 80, [0, 31, 2, 2]) from rfl) zm31 (hl.lt (a := 81) (by decide)) (hl.T (a := 81) (p := (2, 3)) 3 rfl rfl) rfl (show aCr 2 81 [.int x1, .ref 79, .ref 81] 4 = some ([some (.ref 81), some (.ref 79), some (.int x1), none], []) from rfl)) hq5 ?_
    by_cases hc8 : r7 = 0
    · rw [if_pos hc8] at h
      refine Q.map (A.zF (gI_of zm51 (e := (33, 3, .ifCond .ne 13, [22])) rfl) (fun q => of_decide_eq_true q hc8)) ?_
      cases h
      exact Q.t zm51 (show zM51.2.2.2.2.2[17]? = some (36, 3, .new 58, [200]) from rfl) rfl rfl hl.gL (by omega) hl
    · rw [if_neg hc8] at h
      refine Q.map (A.zT (gI_of zm51 (e := (33, 3, .ifCond .ne 13, [22])) rfl) (decide_eq_true hc8)) ?_
      refine Q.run zm51 1 (i' := 23) (ls' := [some (.ref 78), some (.int x1)]) (st' := [.ref 78]) rfl ?_
      refine Q.map (A.gf (gI_of zm51 (e := (47, 3, .getfield 21, [0, 1])) rfl) (hl.lt (a := 78) (by decide)) (hl.T (a := 78) (p := (0, 7)) 0 rfl rfl) (by decide) (hl.R 1 rfl)) ?_
      refine Q.run zm51 2 (i' := 26) (ls' := [some (.ref 78), some (.int x1)]) (st' := [.ref 78, .int x1, .ref 81]) rfl ?_
      refine Q.map (A.gf (gI_of zm51 (e := (52, 3, .getfield 14, [0, 0])) rfl) (hl.lt (a := 78) (by decide)) (hl.T (a := 78) (p := (0, 7)) 0 rfl rfl) (by decide) (hl.R 0 rfl)) ?_
      obtain ⟨s11, hc10, h⟩ := bu_so h
      have hq9 : Q 1 sio tt cc d 39 0 [some (.ref 81), some (.int x1), some (.ref 79)] [] s (.inl none, s11) := dt39 (by omega) hl (hl.Kd (a := 79) (c := 1) (n := 2) 1 rfl rfl (by decide)) hc10
      refine Q.callV (gC_vi zm51 (show zM51.2.2.2.2.2[27]? = some (55, 3, .invokevirtual 107, [0, 39, 2, 2]) from rfl) zm39 (hl.lt (a := 81) (by decide)) (hl.T (a := 81) (p := (2, 3)) 3 rfl rfl) rfl (show aCr 2 81 [.ref 79, .int x1, .ref 81] 3 = some ([some (.ref 81), some (.int x1), some (.ref 79)], []) from rfl)) hq9 ?_
      cases h
      exact Q.ret (A.rv zm51 (show zM51.2.2.2.2.2[28]? = some (58, 1, .return_, []) from rfl) rfl) hq9.1
/-! 3 FormulaTreesLaw.rename(LFormulaTrees;I)I -/
set_option maxRecDepth 100000 in
theorem zm3 : zP[3]? = some zM3 := rfl
def dm3 (x1 : Int32) (s : aS) : Option (Int32 × aS) :=
  bv (dm51 x1 s) fun z4 s3 =>
  zN z4 (fun v5 =>
    vV v5 <|
    some (0, s3)
  ) fun e6 =>
    if e6 = 2 then
      some (1, s3)
    else
      if e6 = 0 then
        some (2, s3)
      else
        none
set_option maxRecDepth 100000 in
theorem dt3 {sio : Bool} {tt : Nat} {cc : Nat → Nat → Int32} {d : Nat} (hd : 10 ≤ d) {x1 : Int32} {s : aS} (hl : Ly tt cc s) {o : Int32 × aS} (h : dm3  x1 s = some o) : Q 1 sio tt cc d 3 0 [some (.ref 78), some (.int x1), none] [] s (.inl (some (.int o.1)), o.2) := by
  unfold dm3 at h
  obtain ⟨d, rfl⟩ : ∃ e, d = e + 1 := ⟨d - 1, by omega⟩
  refine Q.run zm3 2 (i' := 2) (ls' := [some (.ref 78), some (.int x1), none]) (st' := [.int x1, .ref 78]) rfl ?_
  obtain ⟨z4, s3, hc2, h⟩ := bv_so h
  have hq1 : Q 1 sio tt cc d 51 0 [some (.ref 78), some (.int x1)] [] s (z4, s3) := dt51 (by omega) hl  hc2
  rcases zN_so h with ⟨v5, hz8, h8⟩ | ⟨e6, hz8, h8⟩
  · clear h
    subst hz8
    have h := h8
    obtain ⟨hv7, h9⟩ := vV_so h
    clear h
    subst hv7
    have h := h9
    refine Q.callV (gC_vi zm3 (show zM3.2.2.2.2.2[2]? = some (2, 3, .invokevirtual 21, [0, 51, 1, 0]) from rfl) zm51 (hl.lt (a := 78) (by decide)) (hl.T (a := 78) (p := (0, 7)) 0 rfl rfl) rfl (show aCr 1 78 [.int x1, .ref 78] 2 = some ([some (.ref 78), some (.int x1)], []) from rfl)) hq1 ?_
    refine Q.run zm3 2 (i' := 11) (ls' := [some (.ref 78), some (.int x1), none]) (st' := [.int 0]) rfl ?_
    cases h
    exact Q.ret (A.ri zm3 (show zM3.2.2.2.2.2[11]? = some (15, 1, .ireturn, []) from rfl) rfl rfl) hq1.1
  · clear h
    subst hz8
    have h := h8
    by_cases hc9 : e6 = 2
    · rw [if_pos hc9] at h
      subst hc9
      refine Q.hc (gC_vi zm3 (show zM3.2.2.2.2.2[2]? = some (2, 3, .invokevirtual 21, [0, 51, 1, 0]) from rfl) zm51 (hl.lt (a := 78) (by decide)) (hl.T (a := 78) (p := (0, 7)) 0 rfl rfl) rfl (show aCr 1 78 [.int x1, .ref 78] 2 = some ([some (.ref 78), some (.int x1)], []) from rfl)) hq1 (t := 4) rfl ?_
      refine Q.run zm3 2 (i' := 6) (ls' := [some (.ref 78), some (.int x1), some (.ref (sL s3 - 1))]) (st' := [.int 1]) rfl ?_
      cases h
      exact Q.ret (A.ri zm3 (show zM3.2.2.2.2.2[6]? = some (10, 1, .ireturn, []) from rfl) rfl rfl) hq1.1
    · rw [if_neg hc9] at h
      by_cases hc10 : e6 = 0
      · rw [if_pos hc10] at h
        subst hc10
        refine Q.hc (gC_vi zm3 (show zM3.2.2.2.2.2[2]? = some (2, 3, .invokevirtual 21, [0, 51, 1, 0]) from rfl) zm51 (hl.lt (a := 78) (by decide)) (hl.T (a := 78) (p := (0, 7)) 0 rfl rfl) rfl (show aCr 1 78 [.int x1, .ref 78] 2 = some ([some (.ref 78), some (.int x1)], []) from rfl)) hq1 (t := 7) rfl ?_
        refine Q.run zm3 2 (i' := 9) (ls' := [some (.ref 78), some (.int x1), some (.ref (sL s3 - 1))]) (st' := [.int 2]) rfl ?_
        cases h
        exact Q.ret (A.ri zm3 (show zM3.2.2.2.2.2[9]? = some (13, 1, .ireturn, []) from rfl) rfl rfl) hq1.1
      · rw [if_neg hc10] at h
        cases h
/-! 181 FormulaTreesModel.noSheet(I)Z -/
set_option maxRecDepth 100000 in
theorem zm181 : zP[181]? = some zM181 := rfl
def dm181_6 (s : aS) : Option (Int32) :=
  some 1
set_option maxRecDepth 100000 in
theorem dt181_6 {sio : Bool} {tt : Nat} {cc : Nat → Nat → Int32} {d : Nat} (hd : 0 ≤ d) {x1 : Int32} {s : aS} (hl : Ly tt cc s) {o : Int32} (h : dm181_6  s = some o) : Q 2 sio tt cc d 181 6 [some (.ref 121), some (.int x1)] [] s (.inl (some (.int o)), s) := by
  unfold dm181_6 at h
  refine Q.run zm181 2 (i' := 9) (ls' := [some (.ref 121), some (.int x1)]) (st' := [.int 1]) rfl ?_
  cases h
  exact Q.ret (A.ri zm181 (show zM181.2.2.2.2.2[9]? = some (17, 1, .ireturn, []) from rfl) rfl rfl) hl
def dm181 (x1 : Int32) (s : aS) : Option (Int32) :=
  if x1 < 0 then
    dm181_6 s
  else
    if x1 < (sI s 121 3) then
      some 0
    else
      dm181_6 s
set_option maxRecDepth 100000 in
theorem dt181 {sio : Bool} {tt : Nat} {cc : Nat → Nat → Int32} {d : Nat} (hd : 0 ≤ d) {x1 : Int32} {s : aS} (hl : Ly tt cc s) {o : Int32} (h : dm181  x1 s = some o) : Q 2 sio tt cc d 181 0 [some (.ref 121), some (.int x1)] [] s (.inl (some (.int o)), s) := by
  unfold dm181 at h
  refine Q.run zm181 1 (i' := 1) (ls' := [some (.ref 121), some (.int x1)]) (st' := [.int x1]) rfl ?_
  by_cases hc1 : x1 < 0
  · rw [if_pos hc1] at h
    refine Q.map (A.zT (gI_of zm181 (e := (1, 3, .ifCond .lt 11, [6])) rfl) (decide_eq_true hc1)) ?_
    exact dt181_6 hd hl  h
  · rw [if_neg hc1] at h
    refine Q.map (A.zF (gI_of zm181 (e := (1, 3, .ifCond .lt 11, [6])) rfl) (fun q => hc1 (of_decide_eq_true q))) ?_
    refine Q.run zm181 2 (i' := 4) (ls' := [some (.ref 121), some (.int x1)]) (st' := [.ref 121, .int x1]) rfl ?_
    refine Q.map (A.gf (gI_of zm181 (e := (6, 3, .getfield 106, [9, 3])) rfl) (hl.lt (a := 121) (by decide)) (hl.T (a := 121) (p := (9, 45)) 43 rfl rfl) (by decide) rfl) ?_
    by_cases hc2 : x1 < (sI s 121 3)
    · rw [if_pos hc2] at h
      refine Q.map (A.bT (gI_of zm181 (e := (9, 3, .if_icmp .lt 7, [8])) rfl) (decide_eq_true hc2)) ?_
      refine Q.run zm181 1 (i' := 9) (ls' := [some (.ref 121), some (.int x1)]) (st' := [.int 0]) rfl ?_
      cases h
      exact Q.ret (A.ri zm181 (show zM181.2.2.2.2.2[9]? = some (17, 1, .ireturn, []) from rfl) rfl rfl) hl
    · rw [if_neg hc2] at h
      refine Q.map (A.bF (gI_of zm181 (e := (9, 3, .if_icmp .lt 7, [8])) rfl) (fun q => hc2 (of_decide_eq_true q))) ?_
      exact dt181_6 hd hl  h
/-! 180 FormulaTreesModel.rename(I)V -/
set_option maxRecDepth 100000 in
theorem zm180 : zP[180]? = some zM180 := rfl
def dm180_36 (x1 : Int32) (y1 : Int32) (s : aS) : Option (aS) :=
  nx (wI s 121 0 y1) fun s1 =>
  if (sI s1 121 0) = 0 then
    bu (dm179 x1 s1) fun s7 =>
    some s7
  else
    some s1
set_option maxRecDepth 100000 in
theorem dt180_36 {sio : Bool} {tt : Nat} {cc : Nat → Nat → Int32} {d : Nat} (hd : 2 ≤ d) {x1 : Int32} {y1 : Int32} {x2 : Int32} {x3 : Int32} {s : aS} (hl : Ly tt cc s) {o : aS} (h : dm180_36  x1 y1 s = some o) : Q 2 sio tt cc d 180 36 [some (.ref 121), some (.int x1), some (.int x2), some (.int x3)] [.int y1, .ref 121] s (.inl none, o) := by
  unfold dm180_36 at h
  obtain ⟨d, rfl⟩ : ∃ e, d = e + 1 := ⟨d - 1, by omega⟩
  obtain ⟨s1, hs2, h⟩ := nx_so h
  refine Q.pf hs2 rfl (gI_of zm180 (e := (66, 3, .putfield 89, [9, 0, 0])) rfl) (hl.lt (a := 121) (by decide)) (by decide) (hl.T (a := 121) (p := (9, 45)) 43 rfl rfl) (by decide) rfl rfl ?_
  have hl3 : Ly tt cc s1 := by rw [hs2]; exact hl.wId (by decide)
  refine Q.run zm180 1 (i' := 38) (ls' := [some (.ref 121), some (.int x1), some (.int x2), some (.int x3)]) (st' := [.ref 121]) rfl ?_
  refine Q.map (A.gf (gI_of zm180 (e := (70, 3, .getfield 89, [9, 0])) rfl) (hl3.lt (a := 121) (by decide)) (hl3.T (a := 121) (p := (9, 45)) 43 rfl rfl) (by decide) rfl) ?_
  by_cases hc4 : (sI s1 121 0) = 0
  · rw [if_pos hc4] at h
    refine Q.map (A.zF (gI_of zm180 (e := (73, 3, .ifCond .ne 8, [43])) rfl) (fun q => of_decide_eq_true q hc4)) ?_
    refine Q.run zm180 2 (i' := 42) (ls' := [some (.ref 121), some (.int x1), some (.int x2), some (.int x3)]) (st' := [.int x1, .ref 121]) rfl ?_
    obtain ⟨s7, hc6, h⟩ := bu_so h
    have hq5 : Q 2 sio tt cc d 179 0 [some (.ref 121), some (.int x1), none] [] s1 (.inl none, s7) := dt179 (by omega) hl3  hc6
    refine Q.callV (gC_vi zm180 (show zM180.2.2.2.2.2[42]? = some (78, 3, .invokevirtual 124, [0, 179, 1, 9]) from rfl) zm179 (hl3.lt (a := 121) (by decide)) (hl3.T (a := 121) (p := (9, 45)) 43 rfl rfl) rfl (show aCr 1 121 [.int x1, .ref 121] 3 = some ([some (.ref 121), some (.int x1), none], []) from rfl)) hq5 ?_
    cases h
    exact Q.ret (A.rv zm180 (show zM180.2.2.2.2.2[43]? = some (81, 1, .return_, []) from rfl) rfl) hq5.1
  · rw [if_neg hc4] at h
    refine Q.map (A.zT (gI_of zm180 (e := (73, 3, .ifCond .ne 8, [43])) rfl) (decide_eq_true hc4)) ?_
    cases h
    exact Q.ret (A.rv zm180 (show zM180.2.2.2.2.2[43]? = some (81, 1, .return_, []) from rfl) rfl) hl3
def dm180_35 (x1 : Int32) (s : aS) : Option (aS) :=
  dm180_36 x1 0 s
set_option maxRecDepth 100000 in
theorem dt180_35 {sio : Bool} {tt : Nat} {cc : Nat → Nat → Int32} {d : Nat} (hd : 2 ≤ d) {x1 : Int32} {x2 : Int32} {x3 : Int32} {s : aS} (hl : Ly tt cc s) {o : aS} (h : dm180_35  x1 s = some o) : Q 2 sio tt cc d 180 35 [some (.ref 121), some (.int x1), some (.int x2), some (.int x3)] [.ref 121] s (.inl none, o) := by
  unfold dm180_35 at h
  obtain ⟨d, rfl⟩ : ∃ e, d = e + 1 := ⟨d - 1, by omega⟩
  refine Q.run zm180 1 (i' := 36) (ls' := [some (.ref 121), some (.int x1), some (.int x2), some (.int x3)]) (st' := [.int 0, .ref 121]) rfl ?_
  exact dt180_36 hd hl  h
def dm180_33 (x1 : Int32) (s : aS) : Option (aS) :=
  dm180_36 x1 2 s
set_option maxRecDepth 100000 in
theorem dt180_33 {sio : Bool} {tt : Nat} {cc : Nat → Nat → Int32} {d : Nat} (hd : 2 ≤ d) {x1 : Int32} {x2 : Int32} {x3 : Int32} {s : aS} (hl : Ly tt cc s) {o : aS} (h : dm180_33  x1 s = some o) : Q 2 sio tt cc d 180 33 [some (.ref 121), some (.int x1), some (.int x2), some (.int x3)] [.ref 121] s (.inl none, o) := by
  unfold dm180_33 at h
  obtain ⟨d, rfl⟩ : ∃ e, d = e + 1 := ⟨d - 1, by omega⟩
  refine Q.run zm180 2 (i' := 36) (ls' := [some (.ref 121), some (.int x1), some (.int x2), some (.int x3)]) (st' := [.int 2, .ref 121]) rfl ?_
  exact dt180_36 hd hl  h
def dm180_18 (x1 : Int32) (x2 : Int32) (y0 : Int32) (s : aS) : Option (aS) :=
  bu (dm181 x1 s) fun r3 =>
  if r3 = 0 then
    if x2 = 0 then
      if y0 < 0 then
        dm180_35 x1 s
      else
        if y0 = x1 then
          dm180_35 x1 s
        else
          dm180_33 x1 s
    else
      dm180_33 x1 s
  else
    dm180_36 x1 1 s
set_option maxRecDepth 100000 in
theorem dt180_18 {sio : Bool} {tt : Nat} {cc : Nat → Nat → Int32} {d : Nat} (hd : 2 ≤ d) {x1 : Int32} {x2 : Int32} {y0 : Int32} {s : aS} (hl : Ly tt cc s) {o : aS} (h : dm180_18  x1 x2 y0 s = some o) : Q 2 sio tt cc d 180 18 [some (.ref 121), some (.int x1), some (.int x2), none] [.int y0] s (.inl none, o) := by
  unfold dm180_18 at h
  obtain ⟨d, rfl⟩ : ∃ e, d = e + 1 := ⟨d - 1, by omega⟩
  refine Q.run zm180 4 (i' := 22) (ls' := [some (.ref 121), some (.int x1), some (.int x2), some (.int y0)]) (st' := [.int x1, .ref 121, .ref 121]) rfl ?_
  obtain ⟨r3, hc2, h⟩ := bu_so h
  have hq1 : Q 2 sio tt cc d 181 0 [some (.ref 121), some (.int x1)] [] s (.inl (some (.int r3)), s) := dt181 (by omega) hl  hc2
  refine Q.callI (gC_vi zm180 (show zM180.2.2.2.2.2[22]? = some (38, 3, .invokevirtual 128, [0, 181, 1, 9]) from rfl) zm181 (hl.lt (a := 121) (by decide)) (hl.T (a := 121) (p := (9, 45)) 43 rfl rfl) rfl (show aCr 1 121 [.int x1, .ref 121, .ref 121] 2 = some ([some (.ref 121), some (.int x1)], [.ref 121]) from rfl)) hq1 ?_
  by_cases hc4 : r3 = 0
  · rw [if_pos hc4] at h
    refine Q.map (A.zT (gI_of zm180 (e := (41, 3, .ifCond .eq 7, [26])) rfl) (decide_eq_true hc4)) ?_
    refine Q.run zm180 1 (i' := 27) (ls' := [some (.ref 121), some (.int x1), some (.int x2), some (.int y0)]) (st' := [.int x2, .ref 121]) rfl ?_
    by_cases hc5 : x2 = 0
    · rw [if_pos hc5] at h
      refine Q.map (A.zF (gI_of zm180 (e := (49, 3, .ifCond .ne 12, [33])) rfl) (fun q => of_decide_eq_true q hc5)) ?_
      refine Q.run zm180 1 (i' := 29) (ls' := [some (.ref 121), some (.int x1), some (.int x2), some (.int y0)]) (st' := [.int y0, .ref 121]) rfl ?_
      by_cases hc6 : y0 < 0
      · rw [if_pos hc6] at h
        refine Q.map (A.zT (gI_of zm180 (e := (53, 3, .ifCond .lt 12, [35])) rfl) (decide_eq_true hc6)) ?_
        exact dt180_35 hd hl  h
      · rw [if_neg hc6] at h
        refine Q.map (A.zF (gI_of zm180 (e := (53, 3, .ifCond .lt 12, [35])) rfl) (fun q => hc6 (of_decide_eq_true q))) ?_
        refine Q.run zm180 2 (i' := 32) (ls' := [some (.ref 121), some (.int x1), some (.int x2), some (.int y0)]) (st' := [.int x1, .int y0, .ref 121]) rfl ?_
        by_cases hc7 : y0 = x1
        · rw [if_pos hc7] at h
          refine Q.map (A.bT (gI_of zm180 (e := (58, 3, .if_icmp .eq 7, [35])) rfl) (decide_eq_true hc7)) ?_
          exact dt180_35 hd hl  h
        · rw [if_neg hc7] at h
          refine Q.map (A.bF (gI_of zm180 (e := (58, 3, .if_icmp .eq 7, [35])) rfl) (fun q => hc7 (of_decide_eq_true q))) ?_
          exact dt180_33 hd hl  h
    · rw [if_neg hc5] at h
      refine Q.map (A.zT (gI_of zm180 (e := (49, 3, .ifCond .ne 12, [33])) rfl) (decide_eq_true hc5)) ?_
      exact dt180_33 hd hl  h
  · rw [if_neg hc4] at h
    refine Q.map (A.zF (gI_of zm180 (e := (41, 3, .ifCond .eq 7, [26])) rfl) (fun q => hc4 (of_decide_eq_true q))) ?_
    refine Q.run zm180 2 (i' := 36) (ls' := [some (.ref 121), some (.int x1), some (.int x2), some (.int y0)]) (st' := [.int 1, .ref 121]) rfl ?_
    exact dt180_36 hd hl  h
def dm180_6 (x1 : Int32) (y0 : Int32) (s : aS) : Option (aS) :=
  if y0 = 0 then
    bu (dm177 122 0 (sI s 121 1) s) fun r4 =>
    dm180_18 x1 y0 r4 s
  else
    dm180_18 x1 y0 (-1) s
set_option maxRecDepth 100000 in
theorem dt180_6 {sio : Bool} {tt : Nat} {cc : Nat → Nat → Int32} {d : Nat} (hd : 2 ≤ d) {x1 : Int32} {y0 : Int32} {s : aS} (hl : Ly tt cc s) {o : aS} (h : dm180_6  x1 y0 s = some o) : Q 2 sio tt cc d 180 6 [some (.ref 121), some (.int x1), none, none] [.int y0] s (.inl none, o) := by
  unfold dm180_6 at h
  obtain ⟨d, rfl⟩ : ∃ e, d = e + 1 := ⟨d - 1, by omega⟩
  refine Q.run zm180 2 (i' := 8) (ls' := [some (.ref 121), some (.int x1), some (.int y0), none]) (st' := [.int y0]) rfl ?_
  by_cases hc1 : y0 = 0
  · rw [if_pos hc1] at h
    refine Q.map (A.zT (gI_of zm180 (e := (14, 3, .ifCond .eq 7, [11])) rfl) (decide_eq_true hc1)) ?_
    refine Q.run zm180 2 (i' := 13) (ls' := [some (.ref 121), some (.int x1), some (.int y0), none]) (st' := [.ref 121, .ref 121]) rfl ?_
    refine Q.map (A.gf (gI_of zm180 (e := (23, 3, .getfield 7, [9, 2])) rfl) (hl.lt (a := 121) (by decide)) (hl.T (a := 121) (p := (9, 45)) 43 rfl rfl) (by decide) (hl.R 23 rfl)) ?_
    refine Q.run zm180 2 (i' := 16) (ls' := [some (.ref 121), some (.int x1), some (.int y0), none]) (st' := [.ref 121, .int 0, .ref 122, .ref 121]) rfl ?_
    refine Q.map (A.gf (gI_of zm180 (e := (28, 3, .getfield 103, [9, 1])) rfl) (hl.lt (a := 121) (by decide)) (hl.T (a := 121) (p := (9, 45)) 43 rfl rfl) (by decide) rfl) ?_
    obtain ⟨r4, hc3, h⟩ := bu_so h
    have hq2 : Q 2 sio tt cc d 177 0 [some (.ref 121), some (.ref 122), some (.int 0), some (.int (sI s 121 1)), none, none, none] [] s (.inl (some (.int r4)), s) := dt177 (by omega) hl (hl.Kd (a := 122) (c := 100) (n := 256) 44 rfl rfl (by decide)) hc3
    refine Q.callI (gC_vi zm180 (show zM180.2.2.2.2.2[17]? = some (31, 3, .invokevirtual 120, [0, 177, 3, 9]) from rfl) zm177 (hl.lt (a := 121) (by decide)) (hl.T (a := 121) (p := (9, 45)) 43 rfl rfl) rfl (show aCr 3 121 [.int (sI s 121 1), .int 0, .ref 122, .ref 121] 7 = some ([some (.ref 121), some (.ref 122), some (.int 0), some (.int (sI s 121 1)), none, none, none], []) from rfl)) hq2 ?_
    exact dt180_18 hd hl  h
  · rw [if_neg hc1] at h
    refine Q.map (A.zF (gI_of zm180 (e := (14, 3, .ifCond .eq 7, [11])) rfl) (fun q => hc1 (of_decide_eq_true q))) ?_
    refine Q.run zm180 2 (i' := 18) (ls' := [some (.ref 121), some (.int x1), some (.int y0), none]) (st' := [.int (-1)]) rfl ?_
    exact dt180_18 hd hl  h
def dm180 (x1 : Int32) (s : aS) : Option (aS) :=
  bu (dm175 s) fun r3 =>
  if r3 = 0 then
    dm180_6 x1 1 s
  else
    dm180_6 x1 0 s
set_option maxRecDepth 100000 in
theorem dt180 {sio : Bool} {tt : Nat} {cc : Nat → Nat → Int32} {d : Nat} (hd : 2 ≤ d) {x1 : Int32} {s : aS} (hl : Ly tt cc s) {o : aS} (h : dm180  x1 s = some o) : Q 2 sio tt cc d 180 0 [some (.ref 121), some (.int x1), none, none] [] s (.inl none, o) := by
  unfold dm180 at h
  obtain ⟨d, rfl⟩ : ∃ e, d = e + 1 := ⟨d - 1, by omega⟩
  refine Q.run zm180 1 (i' := 1) (ls' := [some (.ref 121), some (.int x1), none, none]) (st' := [.ref 121]) rfl ?_
  obtain ⟨r3, hc2, h⟩ := bu_so h
  have hq1 : Q 2 sio tt cc d 175 0 [some (.ref 121), none, none, none] [] s (.inl (some (.int r3)), s) := dt175 (by omega) hl  hc2
  refine Q.callI (gC_vi zm180 (show zM180.2.2.2.2.2[1]? = some (1, 3, .invokevirtual 116, [0, 175, 0, 9]) from rfl) zm175 (hl.lt (a := 121) (by decide)) (hl.T (a := 121) (p := (9, 45)) 43 rfl rfl) rfl (show aCr 0 121 [.ref 121] 4 = some ([some (.ref 121), none, none, none], []) from rfl)) hq1 ?_
  by_cases hc4 : r3 = 0
  · rw [if_pos hc4] at h
    refine Q.map (A.zF (gI_of zm180 (e := (4, 3, .ifCond .ne 7, [5])) rfl) (fun q => of_decide_eq_true q hc4)) ?_
    refine Q.run zm180 2 (i' := 6) (ls' := [some (.ref 121), some (.int x1), none, none]) (st' := [.int 1]) rfl ?_
    exact dt180_6 hd hl  h
  · rw [if_neg hc4] at h
    refine Q.map (A.zT (gI_of zm180 (e := (4, 3, .ifCond .ne 7, [5])) rfl) (decide_eq_true hc4)) ?_
    refine Q.run zm180 1 (i' := 6) (ls' := [some (.ref 121), some (.int x1), none, none]) (st' := [.int 0]) rfl ?_
    exact dt180_6 hd hl  h
/-! 53 FormulaTrees$Sheets.takeAway(I)V -/
set_option maxRecDepth 100000 in
theorem zm53 : zP[53]? = some zM53 := rfl
def dm53_8 : Nat → Int32 → aS → Option (aS)
  | 0, _, _ => none
  | n + 1, x2, s =>
    if (sI s 81 2) ≤ x2 then
      nx (wI s 81 2 ((sI s 81 2) - 1)) fun s2 =>
      some s2
    else
      if aB x2 8 then
        bu (dm39 (x2 - 1) (84 + 2 * jN x2) s) fun s10 =>
        dm53_8 n (x2 + 1) s10
      else none
set_option maxRecDepth 100000 in
theorem dt53_8 {sio : Bool} {tt : Nat} {cc : Nat → Nat → Int32} {d : Nat} (hd : 8 ≤ d) : ∀ (n : Nat) {x2 : Int32} {x1 : Int32} {s : aS} (_ : Ly tt cc s) {o : aS} (_ : dm53_8  n x2 s = some o), Q 1 sio tt cc d 53 8 [some (.ref 81), some (.int x1), some (.int x2)] [] s (.inl none, o) := by
  obtain ⟨d, rfl⟩ : ∃ e, d = e + 1 := ⟨d - 1, by omega⟩
  intro n
  induction n with
  | zero => intro x2 x1 s hl o h; rw [dm53_8] at h; cases h
  | succ n ih =>
    intro x2 x1 s hl o h
    rw [dm53_8] at h
    refine Q.run zm53 2 (i' := 10) (ls' := [some (.ref 81), some (.int x1), some (.int x2)]) (st' := [.ref 81, .int x2]) rfl ?_
    refine Q.map (A.gf (gI_of zm53 (e := (14, 3, .getfield 24, [2, 2])) rfl) (hl.lt (a := 81) (by decide)) (hl.T (a := 81) (p := (2, 3)) 3 rfl rfl) (by decide) rfl) ?_
    by_cases hc1 : (sI s 81 2) ≤ x2
    · rw [if_pos hc1] at h
      refine Q.map (A.bT (gI_of zm53 (e := (17, 3, .if_icmp .ge 22, [23])) rfl) (decide_eq_true hc1)) ?_
      refine Q.run zm53 2 (i' := 25) (ls' := [some (.ref 81), some (.int x1), some (.int x2)]) (st' := [.ref 81, .ref 81]) rfl ?_
      refine Q.map (A.gf (gI_of zm53 (e := (41, 3, .getfield 24, [2, 2])) rfl) (hl.lt (a := 81) (by decide)) (hl.T (a := 81) (p := (2, 3)) 3 rfl rfl) (by decide) rfl) ?_
      refine Q.run zm53 2 (i' := 28) (ls' := [some (.ref 81), some (.int x1), some (.int x2)]) (st' := [.int ((sI s 81 2) - 1), .ref 81]) rfl ?_
      obtain ⟨s2, hs3, h⟩ := nx_so h
      refine Q.pf hs3 rfl (gI_of zm53 (e := (46, 3, .putfield 24, [2, 2, 0])) rfl) (hl.lt (a := 81) (by decide)) (by decide) (hl.T (a := 81) (p := (2, 3)) 3 rfl rfl) (by decide) rfl rfl ?_
      have hl4 : Ly tt cc s2 := by rw [hs3]; exact hl.wId (by decide)
      cases h
      exact Q.ret (A.rv zm53 (show zM53.2.2.2.2.2[29]? = some (49, 1, .return_, []) from rfl) rfl) hl4
    · rw [if_neg hc1] at h
      refine Q.map (A.bF (gI_of zm53 (e := (17, 3, .if_icmp .ge 22, [23])) rfl) (fun q => hc1 (of_decide_eq_true q))) ?_
      refine Q.run zm53 5 (i' := 17) (ls' := [some (.ref 81), some (.int x1), some (.int x2)]) (st' := [.ref 81, .int (x2 - 1), .ref 81]) rfl ?_
      refine Q.map (A.gf (gI_of zm53 (e := (25, 3, .getfield 11, [2, 0])) rfl) (hl.lt (a := 81) (by decide)) (hl.T (a := 81) (p := (2, 3)) 3 rfl rfl) (by decide) (hl.R 6 rfl)) ?_
      refine Q.run zm53 1 (i' := 19) (ls' := [some (.ref 81), some (.int x1), some (.int x2)]) (st' := [.int x2, .ref 82, .int (x2 - 1), .ref 81]) rfl ?_
      obtain ⟨hc5, h⟩ := ite_so h
      have hn6 := lay_names hl hc5.2
      refine Q.map (A.aa (gI_of zm53 (e := (29, 1, .aaload, [])) rfl) (hl.lt (a := 82) (by decide)) (hl.T (a := 82) (p := (111, 8)) 4 rfl rfl) (by decide) hc5 hn6.2) ?_
      have hr7 := hn6.1
      obtain ⟨s10, hc9, h⟩ := bu_so h
      have hq8 : Q 1 sio tt cc d 39 0 [some (.ref 81), some (.int (x2 - 1)), some (.ref (84 + 2 * jN x2))] [] s (.inl none, s10) := dt39 (by omega) hl hr7 hc9
      refine Q.callV (gC_vi zm53 (show zM53.2.2.2.2.2[20]? = some (30, 3, .invokevirtual 62, [0, 39, 2, 2]) from rfl) zm39 (hl.lt (a := 81) (by decide)) (hl.T (a := 81) (p := (2, 3)) 3 rfl rfl) rfl (show aCr 2 81 [.ref (84 + 2 * jN x2), .int (x2 - 1), .ref 81] 3 = some ([some (.ref 81), some (.int (x2 - 1)), some (.ref (84 + 2 * jN x2))], []) from rfl)) hq8 ?_
      have hr11 : aK s10 (84 + 2 * jN x2) 1 := hq8.2.1.k hr7
      refine Q.run zm53 2 (i' := 8) (ls' := [some (.ref 81), some (.int x1), some (.int (x2 + 1))]) (st' := []) rfl ?_
      exact ih hq8.1  h
def dm53 (x1 : Int32) (s : aS) : Option (aS) :=
  bu (dm40 x1 s) fun r3 =>
  if r3 = 0 then
    some s
  else
    dm53_8 5000 (x1 + 1) s
set_option maxRecDepth 100000 in
theorem dt53 {sio : Bool} {tt : Nat} {cc : Nat → Nat → Int32} {d : Nat} (hd : 8 ≤ d) {x1 : Int32} {s : aS} (hl : Ly tt cc s) {o : aS} (h : dm53  x1 s = some o) : Q 1 sio tt cc d 53 0 [some (.ref 81), some (.int x1), none] [] s (.inl none, o) := by
  unfold dm53 at h
  obtain ⟨d, rfl⟩ : ∃ e, d = e + 1 := ⟨d - 1, by omega⟩
  refine Q.run zm53 2 (i' := 2) (ls' := [some (.ref 81), some (.int x1), none]) (st' := [.int x1, .ref 81]) rfl ?_
  obtain ⟨r3, hc2, h⟩ := bu_so h
  have hq1 : Q 1 sio tt cc d 40 0 [some (.ref 81), some (.int x1)] [] s (.inl (some (.int r3)), s) := dt40 (by omega) hl  hc2
  refine Q.callI (gC_vi zm53 (show zM53.2.2.2.2.2[2]? = some (2, 3, .invokevirtual 28, [0, 40, 1, 2]) from rfl) zm40 (hl.lt (a := 81) (by decide)) (hl.T (a := 81) (p := (2, 3)) 3 rfl rfl) rfl (show aCr 1 81 [.int x1, .ref 81] 2 = some ([some (.ref 81), some (.int x1)], []) from rfl)) hq1 ?_
  by_cases hc4 : r3 = 0
  · rw [if_pos hc4] at h
    refine Q.map (A.zT (gI_of zm53 (e := (5, 3, .ifCond .eq 44, [29])) rfl) (decide_eq_true hc4)) ?_
    cases h
    exact Q.ret (A.rv zm53 (show zM53.2.2.2.2.2[29]? = some (49, 1, .return_, []) from rfl) rfl) hl
  · rw [if_neg hc4] at h
    refine Q.map (A.zF (gI_of zm53 (e := (5, 3, .ifCond .eq 44, [29])) rfl) (fun q => hc4 (of_decide_eq_true q))) ?_
    refine Q.run zm53 4 (i' := 8) (ls' := [some (.ref 81), some (.int x1), some (.int (x1 + 1))]) (st' := []) rfl ?_
    exact dt53_8 hd _ hl  h
/-! 55 FormulaTrees.isPlace(I)Z -/
set_option maxRecDepth 100000 in
theorem zm55 : zP[55]? = some zM55 := rfl
def dm55 (x0 : Int32) : Option (Int32) :=
  if x0 < 0 then
    some 0
  else
    if 8 ≤ x0 then
      some 0
    else
      some 1
set_option maxRecDepth 100000 in
theorem dt55 {sio : Bool} {tt : Nat} {cc : Nat → Nat → Int32} {d : Nat} (hd : 0 ≤ d) {x0 : Int32} {s : aS} (hl : Ly tt cc s) {o : Int32} (h : dm55  x0 = some o) : Q 1 sio tt cc d 55 0 [some (.int x0)] [] s (.inl (some (.int o)), s) := by
  unfold dm55 at h
  refine Q.run zm55 1 (i' := 1) (ls' := [some (.int x0)]) (st' := [.int x0]) rfl ?_
  by_cases hc1 : x0 < 0
  · rw [if_pos hc1] at h
    refine Q.map (A.zT (gI_of zm55 (e := (1, 3, .ifCond .lt 13, [7])) rfl) (decide_eq_true hc1)) ?_
    refine Q.run zm55 1 (i' := 8) (ls' := [some (.int x0)]) (st' := [.int 0]) rfl ?_
    cases h
    exact Q.ret (A.ri zm55 (show zM55.2.2.2.2.2[8]? = some (15, 1, .ireturn, []) from rfl) rfl rfl) hl
  · rw [if_neg hc1] at h
    refine Q.map (A.zF (gI_of zm55 (e := (1, 3, .ifCond .lt 13, [7])) rfl) (fun q => hc1 (of_decide_eq_true q))) ?_
    refine Q.run zm55 2 (i' := 4) (ls' := [some (.int x0)]) (st' := [.int 8, .int x0]) rfl ?_
    by_cases hc2 : 8 ≤ x0
    · rw [if_pos hc2] at h
      refine Q.map (A.bT (gI_of zm55 (e := (7, 3, .if_icmp .ge 7, [7])) rfl) (decide_eq_true hc2)) ?_
      refine Q.run zm55 1 (i' := 8) (ls' := [some (.int x0)]) (st' := [.int 0]) rfl ?_
      cases h
      exact Q.ret (A.ri zm55 (show zM55.2.2.2.2.2[8]? = some (15, 1, .ireturn, []) from rfl) rfl rfl) hl
    · rw [if_neg hc2] at h
      refine Q.map (A.bF (gI_of zm55 (e := (7, 3, .if_icmp .ge 7, [7])) rfl) (fun q => hc2 (of_decide_eq_true q))) ?_
      refine Q.run zm55 2 (i' := 8) (ls' := [some (.int x0)]) (st' := [.int 1]) rfl ?_
      cases h
      exact Q.ret (A.ri zm55 (show zM55.2.2.2.2.2[8]? = some (15, 1, .ireturn, []) from rfl) rfl rfl) hl
/-! 54 FormulaTrees.treeOf(I)LFormulaTrees$Tree; -/
set_option maxRecDepth 100000 in
theorem zm54 : zP[54]? = some zM54 := rfl
def dm54 (x1 : Int32) (s : aS) : Option (Value) :=
  bu (dm55 x1) fun r3 =>
  if r3 = 0 then
    some (.null)
  else
    if aB x1 8 then
      if (sI s 101 (jN x1)) = (-1) then
        some (.null)
      else
        if aB x1 8 then
          vN (sR s 100 (jN x1)) (
            some (.null)
          ) fun b9 =>
            if aK s b9 3 then
              some (.ref b9)
            else none
        else none
    else none
set_option maxRecDepth 100000 in
theorem dt54 {sio : Bool} {tt : Nat} {cc : Nat → Nat → Int32} {d : Nat} (hd : 1 ≤ d) {x1 : Int32} {s : aS} (hl : Ly tt cc s) {o : Value} (h : dm54  x1 s = some o) : Q 1 sio tt cc d 54 0 [some (.ref 78), some (.int x1)] [] s (.inl (some o), s) := by
  unfold dm54 at h
  obtain ⟨d, rfl⟩ : ∃ e, d = e + 1 := ⟨d - 1, by omega⟩
  refine Q.run zm54 1 (i' := 1) (ls' := [some (.ref 78), some (.int x1)]) (st' := [.int x1]) rfl ?_
  obtain ⟨r3, hc2, h⟩ := bu_so h
  have hq1 : Q 1 sio tt cc d 55 0 [some (.int x1)] [] s (.inl (some (.int r3)), s) := dt55 (by omega) hl  hc2
  refine Q.callI (gC_st zm54 (show zM54.2.2.2.2.2[1]? = some (1, 3, .invokestatic 125, [0, 55, 1]) from rfl) zm55 (show aC 1 [.int x1] 1 = some ([some (.int x1)], []) from rfl)) hq1 ?_
  by_cases hc4 : r3 = 0
  · rw [if_pos hc4] at h
    refine Q.map (A.zT (gI_of zm54 (e := (4, 3, .ifCond .eq 22, [14])) rfl) (decide_eq_true hc4)) ?_
    refine Q.run zm54 1 (i' := 15) (ls' := [some (.ref 78), some (.int x1)]) (st' := [.null]) rfl ?_
    cases h
    exact Q.ret (A.ra zm54 (show zM54.2.2.2.2.2[15]? = some (27, 1, .areturn, []) from rfl) rfl rfl rfl) hl
  · rw [if_neg hc4] at h
    refine Q.map (A.zF (gI_of zm54 (e := (4, 3, .ifCond .eq 22, [14])) rfl) (fun q => hc4 (of_decide_eq_true q))) ?_
    refine Q.run zm54 1 (i' := 4) (ls' := [some (.ref 78), some (.int x1)]) (st' := [.ref 78]) rfl ?_
    refine Q.map (A.gf (gI_of zm54 (e := (8, 3, .getfield 31, [0, 3])) rfl) (hl.lt (a := 78) (by decide)) (hl.T (a := 78) (p := (0, 7)) 0 rfl rfl) (by decide) (hl.R 3 rfl)) ?_
    refine Q.run zm54 1 (i' := 6) (ls' := [some (.ref 78), some (.int x1)]) (st' := [.int x1, .ref 101]) rfl ?_
    obtain ⟨hc5, h⟩ := ite_so h
    refine Q.map (A.ia (gI_of zm54 (e := (12, 1, .iaload, [])) rfl) (hl.lt (a := 101) (by decide)) (hl.T (a := 101) (p := (100, 8)) 23 rfl rfl) hc5) ?_
    refine Q.run zm54 1 (i' := 8) (ls' := [some (.ref 78), some (.int x1)]) (st' := [.int (-1), .int (sI s 101 (jN x1))]) rfl ?_
    by_cases hc6 : (sI s 101 (jN x1)) = (-1)
    · rw [if_pos hc6] at h
      refine Q.map (A.bT (gI_of zm54 (e := (14, 3, .if_icmp .eq 12, [14])) rfl) (decide_eq_true hc6)) ?_
      refine Q.run zm54 1 (i' := 15) (ls' := [some (.ref 78), some (.int x1)]) (st' := [.null]) rfl ?_
      cases h
      exact Q.ret (A.ra zm54 (show zM54.2.2.2.2.2[15]? = some (27, 1, .areturn, []) from rfl) rfl rfl rfl) hl
    · rw [if_neg hc6] at h
      refine Q.map (A.bF (gI_of zm54 (e := (14, 3, .if_icmp .eq 12, [14])) rfl) (fun q => hc6 (of_decide_eq_true q))) ?_
      refine Q.run zm54 1 (i' := 10) (ls' := [some (.ref 78), some (.int x1)]) (st' := [.ref 78]) rfl ?_
      refine Q.map (A.gf (gI_of zm54 (e := (18, 3, .getfield 27, [0, 2])) rfl) (hl.lt (a := 78) (by decide)) (hl.T (a := 78) (p := (0, 7)) 0 rfl rfl) (by decide) (hl.R 2 rfl)) ?_
      refine Q.run zm54 1 (i' := 12) (ls' := [some (.ref 78), some (.int x1)]) (st' := [.int x1, .ref 100]) rfl ?_
      obtain ⟨hc7, h⟩ := ite_so h
      rcases vN_so h with ⟨hv8, h⟩ | ⟨b9, hv8, h⟩
      · refine Q.map (A.aa (gI_of zm54 (e := (22, 1, .aaload, [])) rfl) (hl.lt (a := 100) (by decide)) (hl.T (a := 100) (p := (113, 8)) 22 rfl rfl) (by decide) hc7 hv8) ?_
        refine Q.run zm54 1 (i' := 15) (ls' := [some (.ref 78), some (.int x1)]) (st' := [.null]) rfl ?_
        cases h
        exact Q.ret (A.ra zm54 (show zM54.2.2.2.2.2[15]? = some (27, 1, .areturn, []) from rfl) rfl rfl rfl) hl
      · obtain ⟨hr10, h⟩ := ite_so h
        refine Q.map (A.aa (gI_of zm54 (e := (22, 1, .aaload, [])) rfl) (hl.lt (a := 100) (by decide)) (hl.T (a := 100) (p := (113, 8)) 22 rfl rfl) (by decide) hc7 hv8) ?_
        refine Q.run zm54 1 (i' := 15) (ls' := [some (.ref 78), some (.int x1)]) (st' := [.ref b9]) rfl ?_
        cases h
        exact Q.ret (A.ra zm54 (show zM54.2.2.2.2.2[15]? = some (27, 1, .areturn, []) from rfl) rfl rfl rfl) hl
/-! 57 FormulaTrees$Tree.fact(II)I -/
set_option maxRecDepth 100000 in
theorem zm57 : zP[57]? = some zM57 := rfl
def dm57_14 (b0 : Nat) (x1 : Int32) (x2 : Int32) (y0 : Int32) (s : aS) : Option (Int32) :=
  if y0 = 0 then
    some (-1)
  else
    if aB ((x1 * 11) + x2) 1408 then
      some (sI s (b0 + 1) (jN ((x1 * 11) + x2)))
    else none
set_option maxRecDepth 100000 in
theorem dt57_14 {sio : Bool} {tt : Nat} {cc : Nat → Nat → Int32} {d : Nat} (hd : 0 ≤ d) {b0 : Nat} {x1 : Int32} {x2 : Int32} {y0 : Int32} {s : aS} (hl : Ly tt cc s) (hk_b0 : aK s b0 3) {o : Int32} (h : dm57_14  b0 x1 x2 y0 s = some o) : Q 1 sio tt cc d 57 14 [some (.ref b0), some (.int x1), some (.int x2), none] [.int y0] s (.inl (some (.int o)), s) := by
  unfold dm57_14 at h
  refine Q.run zm57 2 (i' := 16) (ls' := [some (.ref b0), some (.int x1), some (.int x2), some (.int y0)]) (st' := [.int y0]) rfl ?_
  by_cases hc1 : y0 = 0
  · rw [if_pos hc1] at h
    refine Q.map (A.zT (gI_of zm57 (e := (29, 3, .ifCond .eq 17, [26])) rfl) (decide_eq_true hc1)) ?_
    refine Q.run zm57 1 (i' := 27) (ls' := [some (.ref b0), some (.int x1), some (.int x2), some (.int y0)]) (st' := [.int (-1)]) rfl ?_
    cases h
    exact Q.ret (A.ri zm57 (show zM57.2.2.2.2.2[27]? = some (47, 1, .ireturn, []) from rfl) rfl rfl) hl
  · rw [if_neg hc1] at h
    refine Q.map (A.zF (gI_of zm57 (e := (29, 3, .ifCond .eq 17, [26])) rfl) (fun q => hc1 (of_decide_eq_true q))) ?_
    refine Q.run zm57 1 (i' := 18) (ls' := [some (.ref b0), some (.int x1), some (.int x2), some (.int y0)]) (st' := [.ref b0]) rfl ?_
    refine Q.map (A.gf (gI_of zm57 (e := (33, 3, .getfield 9, [3, 0])) rfl) hk_b0.1 (hl.tr hk_b0).1 (by decide) (hl.tr hk_b0).2.1) ?_
    refine Q.run zm57 5 (i' := 24) (ls' := [some (.ref b0), some (.int x1), some (.int x2), some (.int y0)]) (st' := [.int ((x1 * 11) + x2), .ref (b0 + 1)]) rfl ?_
    obtain ⟨hc2, h⟩ := ite_so h
    refine Q.map (A.ia (gI_of zm57 (e := (42, 1, .iaload, [])) rfl) (by have := (hl.tr hk_b0).2.2.2.1; omega) (hl.tr hk_b0).2.2.2.2.1 hc2) ?_
    refine Q.run zm57 1 (i' := 27) (ls' := [some (.ref b0), some (.int x1), some (.int x2), some (.int y0)]) (st' := [.int (sI s (b0 + 1) (jN ((x1 * 11) + x2)))]) rfl ?_
    cases h
    exact Q.ret (A.ri zm57 (show zM57.2.2.2.2.2[27]? = some (47, 1, .ireturn, []) from rfl) rfl rfl) hl
def dm57_13 (b0 : Nat) (x1 : Int32) (x2 : Int32) (s : aS) : Option (Int32) :=
  dm57_14 b0 x1 x2 0 s
set_option maxRecDepth 100000 in
theorem dt57_13 {sio : Bool} {tt : Nat} {cc : Nat → Nat → Int32} {d : Nat} (hd : 0 ≤ d) {b0 : Nat} {x1 : Int32} {x2 : Int32} {s : aS} (hl : Ly tt cc s) (hk_b0 : aK s b0 3) {o : Int32} (h : dm57_13  b0 x1 x2 s = some o) : Q 1 sio tt cc d 57 13 [some (.ref b0), some (.int x1), some (.int x2), none] [] s (.inl (some (.int o)), s) := by
  unfold dm57_13 at h
  refine Q.run zm57 1 (i' := 14) (ls' := [some (.ref b0), some (.int x1), some (.int x2), none]) (st' := [.int 0]) rfl ?_
  exact dt57_14 hd hl hk_b0 h
def dm57 (b0 : Nat) (x1 : Int32) (x2 : Int32) (s : aS) : Option (Int32) :=
  if x1 < 0 then
    dm57_13 b0 x1 x2 s
  else
    if (sI s b0 2) ≤ x1 then
      dm57_13 b0 x1 x2 s
    else
      if x2 < 0 then
        dm57_13 b0 x1 x2 s
      else
        if 11 ≤ x2 then
          dm57_13 b0 x1 x2 s
        else
          dm57_14 b0 x1 x2 1 s
set_option maxRecDepth 100000 in
theorem dt57 {sio : Bool} {tt : Nat} {cc : Nat → Nat → Int32} {d : Nat} (hd : 0 ≤ d) {b0 : Nat} {x1 : Int32} {x2 : Int32} {s : aS} (hl : Ly tt cc s) (hk_b0 : aK s b0 3) {o : Int32} (h : dm57  b0 x1 x2 s = some o) : Q 1 sio tt cc d 57 0 [some (.ref b0), some (.int x1), some (.int x2), none] [] s (.inl (some (.int o)), s) := by
  unfold dm57 at h
  refine Q.run zm57 1 (i' := 1) (ls' := [some (.ref b0), some (.int x1), some (.int x2), none]) (st' := [.int x1]) rfl ?_
  by_cases hc1 : x1 < 0
  · rw [if_pos hc1] at h
    refine Q.map (A.zT (gI_of zm57 (e := (1, 3, .ifCond .lt 25, [13])) rfl) (decide_eq_true hc1)) ?_
    exact dt57_13 hd hl hk_b0 h
  · rw [if_neg hc1] at h
    refine Q.map (A.zF (gI_of zm57 (e := (1, 3, .ifCond .lt 25, [13])) rfl) (fun q => hc1 (of_decide_eq_true q))) ?_
    refine Q.run zm57 2 (i' := 4) (ls' := [some (.ref b0), some (.int x1), some (.int x2), none]) (st' := [.ref b0, .int x1]) rfl ?_
    refine Q.map (A.gf (gI_of zm57 (e := (6, 3, .getfield 24, [3, 2])) rfl) hk_b0.1 (hl.tr hk_b0).1 (by decide) rfl) ?_
    by_cases hc2 : (sI s b0 2) ≤ x1
    · rw [if_pos hc2] at h
      refine Q.map (A.bT (gI_of zm57 (e := (9, 3, .if_icmp .ge 17, [13])) rfl) (decide_eq_true hc2)) ?_
      exact dt57_13 hd hl hk_b0 h
    · rw [if_neg hc2] at h
      refine Q.map (A.bF (gI_of zm57 (e := (9, 3, .if_icmp .ge 17, [13])) rfl) (fun q => hc2 (of_decide_eq_true q))) ?_
      refine Q.run zm57 1 (i' := 7) (ls' := [some (.ref b0), some (.int x1), some (.int x2), none]) (st' := [.int x2]) rfl ?_
      by_cases hc3 : x2 < 0
      · rw [if_pos hc3] at h
        refine Q.map (A.zT (gI_of zm57 (e := (13, 3, .ifCond .lt 13, [13])) rfl) (decide_eq_true hc3)) ?_
        exact dt57_13 hd hl hk_b0 h
      · rw [if_neg hc3] at h
        refine Q.map (A.zF (gI_of zm57 (e := (13, 3, .ifCond .lt 13, [13])) rfl) (fun q => hc3 (of_decide_eq_true q))) ?_
        refine Q.run zm57 2 (i' := 10) (ls' := [some (.ref b0), some (.int x1), some (.int x2), none]) (st' := [.int 11, .int x2]) rfl ?_
        by_cases hc4 : 11 ≤ x2
        · rw [if_pos hc4] at h
          refine Q.map (A.bT (gI_of zm57 (e := (19, 3, .if_icmp .ge 7, [13])) rfl) (decide_eq_true hc4)) ?_
          exact dt57_13 hd hl hk_b0 h
        · rw [if_neg hc4] at h
          refine Q.map (A.bF (gI_of zm57 (e := (19, 3, .if_icmp .ge 7, [13])) rfl) (fun q => hc4 (of_decide_eq_true q))) ?_
          refine Q.run zm57 2 (i' := 14) (ls' := [some (.ref b0), some (.int x1), some (.int x2), none]) (st' := [.int 1]) rfl ?_
          exact dt57_14 hd hl hk_b0 h
/-! 59 FormulaTrees$Tree.makePlain(III)V -/
set_option maxRecDepth 100000 in
theorem zm59 : zP[59]? = some zM59 := rfl
def dm59_13 : Nat → Nat → Int32 → Int32 → Int32 → Int32 → aS → Option (aS)
  | 0, _, _, _, _, _, _ => none
  | n + 1, b0, x2, x3, x4, x5, s =>
    if 11 ≤ x5 then
      if aB (x4 + 0) 1408 then
        nx (wI s (b0 + 1) (jN (x4 + 0)) x2) fun s3 =>
        if aB (x4 + 1) 1408 then
          nx (wI s3 (b0 + 1) (jN (x4 + 1)) x3) fun s8 =>
          if aB (x4 + 2) 1408 then
            nx (wI s8 (b0 + 1) (jN (x4 + 2)) (-1)) fun s13 =>
            some s13
          else none
        else none
      else none
    else
      if aB (x4 + x5) 1408 then
        nx (wI s (b0 + 1) (jN (x4 + x5)) 0) fun s18 =>
        dm59_13 n b0 x2 x3 x4 (x5 + 1) s18
      else none
set_option maxRecDepth 100000 in
theorem dt59_13 {sio : Bool} {tt : Nat} {cc : Nat → Nat → Int32} {d : Nat} (hd : 0 ≤ d) : ∀ (n : Nat) {b0 : Nat} {x2 : Int32} {x3 : Int32} {x4 : Int32} {x5 : Int32} {x1 : Int32} {s : aS} (_ : Ly tt cc s) (_ : aK s b0 3) {o : aS} (_ : dm59_13  n b0 x2 x3 x4 x5 s = some o), Q 1 sio tt cc d 59 13 [some (.ref b0), some (.int x1), some (.int x2), some (.int x3), some (.int x4), some (.int x5)] [] s (.inl none, o) := by
  intro n
  induction n with
  | zero => intro b0 x2 x3 x4 x5 x1 s hl hk_b0 o h; rw [dm59_13] at h; cases h
  | succ n ih =>
    intro b0 x2 x3 x4 x5 x1 s hl hk_b0 o h
    rw [dm59_13] at h
    refine Q.run zm59 2 (i' := 15) (ls' := [some (.ref b0), some (.int x1), some (.int x2), some (.int x3), some (.int x4), some (.int x5)]) (st' := [.int 11, .int x5]) rfl ?_
    by_cases hc1 : 11 ≤ x5
    · rw [if_pos hc1] at h
      refine Q.map (A.bT (gI_of zm59 (e := (26, 3, .if_icmp .ge 20, [25])) rfl) (decide_eq_true hc1)) ?_
      refine Q.run zm59 1 (i' := 26) (ls' := [some (.ref b0), some (.int x1), some (.int x2), some (.int x3), some (.int x4), some (.int x5)]) (st' := [.ref b0]) rfl ?_
      refine Q.map (A.gf (gI_of zm59 (e := (47, 3, .getfield 9, [3, 0])) rfl) hk_b0.1 (hl.tr hk_b0).1 (by decide) (hl.tr hk_b0).2.1) ?_
      refine Q.run zm59 4 (i' := 31) (ls' := [some (.ref b0), some (.int x1), some (.int x2), some (.int x3), some (.int x4), some (.int x5)]) (st' := [.int x2, .int (x4 + 0), .ref (b0 + 1)]) rfl ?_
      obtain ⟨hc2, h⟩ := ite_so h
      obtain ⟨s3, hs4, h⟩ := nx_so h
      refine Q.is hs4 (hl.g3a hk_b0) (gI_of zm59 (e := (55, 1, .iastore, [])) rfl) (by have := (hl.tr hk_b0).2.2.2.1; omega) (by have := (hl.tr hk_b0).2.2.2.2.2.2.2; omega) (hl.tr hk_b0).2.2.2.2.1 hc2 ?_
      have hl5 : Ly tt cc s3 := by rw [hs4]; exact hl.wId (by have := (hl.tr hk_b0).2.2.2.2.2.2.2; omega)
      have hr6 : aK s3 b0 3 := by rw [hs4]; exact hk_b0
      refine Q.run zm59 1 (i' := 33) (ls' := [some (.ref b0), some (.int x1), some (.int x2), some (.int x3), some (.int x4), some (.int x5)]) (st' := [.ref b0]) rfl ?_
      refine Q.map (A.gf (gI_of zm59 (e := (57, 3, .getfield 9, [3, 0])) rfl) hr6.1 (hl5.tr hr6).1 (by decide) (hl5.tr hr6).2.1) ?_
      refine Q.run zm59 4 (i' := 38) (ls' := [some (.ref b0), some (.int x1), some (.int x2), some (.int x3), some (.int x4), some (.int x5)]) (st' := [.int x3, .int (x4 + 1), .ref (b0 + 1)]) rfl ?_
      obtain ⟨hc7, h⟩ := ite_so h
      obtain ⟨s8, hs9, h⟩ := nx_so h
      refine Q.is hs9 (hl5.g3a hr6) (gI_of zm59 (e := (65, 1, .iastore, [])) rfl) (by have := (hl5.tr hr6).2.2.2.1; omega) (by have := (hl5.tr hr6).2.2.2.2.2.2.2; omega) (hl5.tr hr6).2.2.2.2.1 hc7 ?_
      have hl10 : Ly tt cc s8 := by rw [hs9]; exact hl5.wId (by have := (hl5.tr hr6).2.2.2.2.2.2.2; omega)
      have hr11 : aK s8 b0 3 := by rw [hs9]; exact hr6
      refine Q.run zm59 1 (i' := 40) (ls' := [some (.ref b0), some (.int x1), some (.int x2), some (.int x3), some (.int x4), some (.int x5)]) (st' := [.ref b0]) rfl ?_
      refine Q.map (A.gf (gI_of zm59 (e := (67, 3, .getfield 9, [3, 0])) rfl) hr11.1 (hl10.tr hr11).1 (by decide) (hl10.tr hr11).2.1) ?_
      refine Q.run zm59 4 (i' := 45) (ls' := [some (.ref b0), some (.int x1), some (.int x2), some (.int x3), some (.int x4), some (.int x5)]) (st' := [.int (-1), .int (x4 + 2), .ref (b0 + 1)]) rfl ?_
      obtain ⟨hc12, h⟩ := ite_so h
      obtain ⟨s13, hs14, h⟩ := nx_so h
      refine Q.is hs14 (hl10.g3a hr11) (gI_of zm59 (e := (75, 1, .iastore, [])) rfl) (by have := (hl10.tr hr11).2.2.2.1; omega) (by have := (hl10.tr hr11).2.2.2.2.2.2.2; omega) (hl10.tr hr11).2.2.2.2.1 hc12 ?_
      have hl15 : Ly tt cc s13 := by rw [hs14]; exact hl10.wId (by have := (hl10.tr hr11).2.2.2.2.2.2.2; omega)
      have hr16 : aK s13 b0 3 := by rw [hs14]; exact hr11
      cases h
      exact Q.ret (A.rv zm59 (show zM59.2.2.2.2.2[46]? = some (76, 1, .return_, []) from rfl) rfl) hl15
    · rw [if_neg hc1] at h
      refine Q.map (A.bF (gI_of zm59 (e := (26, 3, .if_icmp .ge 20, [25])) rfl) (fun q => hc1 (of_decide_eq_true q))) ?_
      refine Q.run zm59 1 (i' := 17) (ls' := [some (.ref b0), some (.int x1), some (.int x2), some (.int x3), some (.int x4), some (.int x5)]) (st' := [.ref b0]) rfl ?_
      refine Q.map (A.gf (gI_of zm59 (e := (30, 3, .getfield 9, [3, 0])) rfl) hk_b0.1 (hl.tr hk_b0).1 (by decide) (hl.tr hk_b0).2.1) ?_
      refine Q.run zm59 4 (i' := 22) (ls' := [some (.ref b0), some (.int x1), some (.int x2), some (.int x3), some (.int x4), some (.int x5)]) (st' := [.int 0, .int (x4 + x5), .ref (b0 + 1)]) rfl ?_
      obtain ⟨hc17, h⟩ := ite_so h
      obtain ⟨s18, hs19, h⟩ := nx_so h
      refine Q.is hs19 (hl.g3a hk_b0) (gI_of zm59 (e := (39, 1, .iastore, [])) rfl) (by have := (hl.tr hk_b0).2.2.2.1; omega) (by have := (hl.tr hk_b0).2.2.2.2.2.2.2; omega) (hl.tr hk_b0).2.2.2.2.1 hc17 ?_
      have hl20 : Ly tt cc s18 := by rw [hs19]; exact hl.wId (by have := (hl.tr hk_b0).2.2.2.2.2.2.2; omega)
      have hr21 : aK s18 b0 3 := by rw [hs19]; exact hk_b0
      refine Q.run zm59 2 (i' := 13) (ls' := [some (.ref b0), some (.int x1), some (.int x2), some (.int x3), some (.int x4), some (.int (x5 + 1))]) (st' := []) rfl ?_
      exact ih hl20 hr21 h
def dm59 (b0 : Nat) (x1 : Int32) (x2 : Int32) (x3 : Int32) (s : aS) : Option (aS) :=
  if x1 < 0 then
    some s
  else
    if x1 < (sI s b0 2) then
      dm59_13 5000 b0 x2 x3 (x1 * 11) 0 s
    else
      some s
set_option maxRecDepth 100000 in
theorem dt59 {sio : Bool} {tt : Nat} {cc : Nat → Nat → Int32} {d : Nat} (hd : 0 ≤ d) {b0 : Nat} {x1 : Int32} {x2 : Int32} {x3 : Int32} {s : aS} (hl : Ly tt cc s) (hk_b0 : aK s b0 3) {o : aS} (h : dm59  b0 x1 x2 x3 s = some o) : Q 1 sio tt cc d 59 0 [some (.ref b0), some (.int x1), some (.int x2), some (.int x3), none, none] [] s (.inl none, o) := by
  unfold dm59 at h
  refine Q.run zm59 1 (i' := 1) (ls' := [some (.ref b0), some (.int x1), some (.int x2), some (.int x3), none, none]) (st' := [.int x1]) rfl ?_
  by_cases hc1 : x1 < 0
  · rw [if_pos hc1] at h
    refine Q.map (A.zT (gI_of zm59 (e := (1, 3, .ifCond .lt 11, [6])) rfl) (decide_eq_true hc1)) ?_
    cases h
    exact Q.ret (A.rv zm59 (show zM59.2.2.2.2.2[6]? = some (12, 1, .return_, []) from rfl) rfl) hl
  · rw [if_neg hc1] at h
    refine Q.map (A.zF (gI_of zm59 (e := (1, 3, .ifCond .lt 11, [6])) rfl) (fun q => hc1 (of_decide_eq_true q))) ?_
    refine Q.run zm59 2 (i' := 4) (ls' := [some (.ref b0), some (.int x1), some (.int x2), some (.int x3), none, none]) (st' := [.ref b0, .int x1]) rfl ?_
    refine Q.map (A.gf (gI_of zm59 (e := (6, 3, .getfield 24, [3, 2])) rfl) hk_b0.1 (hl.tr hk_b0).1 (by decide) rfl) ?_
    by_cases hc2 : x1 < (sI s b0 2)
    · rw [if_pos hc2] at h
      refine Q.map (A.bT (gI_of zm59 (e := (9, 3, .if_icmp .lt 4, [7])) rfl) (decide_eq_true hc2)) ?_
      refine Q.run zm59 6 (i' := 13) (ls' := [some (.ref b0), some (.int x1), some (.int x2), some (.int x3), some (.int (x1 * 11)), some (.int 0)]) (st' := []) rfl ?_
      exact dt59_13 hd _ hl hk_b0 h
    · rw [if_neg hc2] at h
      refine Q.map (A.bF (gI_of zm59 (e := (9, 3, .if_icmp .lt 4, [7])) rfl) (fun q => hc2 (of_decide_eq_true q))) ?_
      cases h
      exact Q.ret (A.rv zm59 (show zM59.2.2.2.2.2[6]? = some (12, 1, .return_, []) from rfl) rfl) hl
/-! 60 FormulaTrees$Tree.put(III)V -/
set_option maxRecDepth 100000 in
theorem zm60 : zP[60]? = some zM60 := rfl
def dm60 (b0 : Nat) (x1 : Int32) (x2 : Int32) (x3 : Int32) (s : aS) : Option (aS) :=
  if x1 < 0 then
    some s
  else
    if (sI s b0 2) ≤ x1 then
      some s
    else
      if x2 < 0 then
        some s
      else
        if 11 ≤ x2 then
          some s
        else
          if aB ((x1 * 11) + x2) 1408 then
            nx (wI s (b0 + 1) (jN ((x1 * 11) + x2)) x3) fun s6 =>
            some s6
          else none
set_option maxRecDepth 100000 in
theorem dt60 {sio : Bool} {tt : Nat} {cc : Nat → Nat → Int32} {d : Nat} (hd : 0 ≤ d) {b0 : Nat} {x1 : Int32} {x2 : Int32} {x3 : Int32} {s : aS} (hl : Ly tt cc s) (hk_b0 : aK s b0 3) {o : aS} (h : dm60  b0 x1 x2 x3 s = some o) : Q 1 sio tt cc d 60 0 [some (.ref b0), some (.int x1), some (.int x2), some (.int x3)] [] s (.inl none, o) := by
  unfold dm60 at h
  refine Q.run zm60 1 (i' := 1) (ls' := [some (.ref b0), some (.int x1), some (.int x2), some (.int x3)]) (st' := [.int x1]) rfl ?_
  by_cases hc1 : x1 < 0
  · rw [if_pos hc1] at h
    refine Q.map (A.zT (gI_of zm60 (e := (1, 3, .ifCond .lt 33, [20])) rfl) (decide_eq_true hc1)) ?_
    cases h
    exact Q.ret (A.rv zm60 (show zM60.2.2.2.2.2[20]? = some (34, 1, .return_, []) from rfl) rfl) hl
  · rw [if_neg hc1] at h
    refine Q.map (A.zF (gI_of zm60 (e := (1, 3, .ifCond .lt 33, [20])) rfl) (fun q => hc1 (of_decide_eq_true q))) ?_
    refine Q.run zm60 2 (i' := 4) (ls' := [some (.ref b0), some (.int x1), some (.int x2), some (.int x3)]) (st' := [.ref b0, .int x1]) rfl ?_
    refine Q.map (A.gf (gI_of zm60 (e := (6, 3, .getfield 24, [3, 2])) rfl) hk_b0.1 (hl.tr hk_b0).1 (by decide) rfl) ?_
    by_cases hc2 : (sI s b0 2) ≤ x1
    · rw [if_pos hc2] at h
      refine Q.map (A.bT (gI_of zm60 (e := (9, 3, .if_icmp .ge 25, [20])) rfl) (decide_eq_true hc2)) ?_
      cases h
      exact Q.ret (A.rv zm60 (show zM60.2.2.2.2.2[20]? = some (34, 1, .return_, []) from rfl) rfl) hl
    · rw [if_neg hc2] at h
      refine Q.map (A.bF (gI_of zm60 (e := (9, 3, .if_icmp .ge 25, [20])) rfl) (fun q => hc2 (of_decide_eq_true q))) ?_
      refine Q.run zm60 1 (i' := 7) (ls' := [some (.ref b0), some (.int x1), some (.int x2), some (.int x3)]) (st' := [.int x2]) rfl ?_
      by_cases hc3 : x2 < 0
      · rw [if_pos hc3] at h
        refine Q.map (A.zT (gI_of zm60 (e := (13, 3, .ifCond .lt 21, [20])) rfl) (decide_eq_true hc3)) ?_
        cases h
        exact Q.ret (A.rv zm60 (show zM60.2.2.2.2.2[20]? = some (34, 1, .return_, []) from rfl) rfl) hl
      · rw [if_neg hc3] at h
        refine Q.map (A.zF (gI_of zm60 (e := (13, 3, .ifCond .lt 21, [20])) rfl) (fun q => hc3 (of_decide_eq_true q))) ?_
        refine Q.run zm60 2 (i' := 10) (ls' := [some (.ref b0), some (.int x1), some (.int x2), some (.int x3)]) (st' := [.int 11, .int x2]) rfl ?_
        by_cases hc4 : 11 ≤ x2
        · rw [if_pos hc4] at h
          refine Q.map (A.bT (gI_of zm60 (e := (19, 3, .if_icmp .ge 15, [20])) rfl) (decide_eq_true hc4)) ?_
          cases h
          exact Q.ret (A.rv zm60 (show zM60.2.2.2.2.2[20]? = some (34, 1, .return_, []) from rfl) rfl) hl
        · rw [if_neg hc4] at h
          refine Q.map (A.bF (gI_of zm60 (e := (19, 3, .if_icmp .ge 15, [20])) rfl) (fun q => hc4 (of_decide_eq_true q))) ?_
          refine Q.run zm60 1 (i' := 12) (ls' := [some (.ref b0), some (.int x1), some (.int x2), some (.int x3)]) (st' := [.ref b0]) rfl ?_
          refine Q.map (A.gf (gI_of zm60 (e := (23, 3, .getfield 9, [3, 0])) rfl) hk_b0.1 (hl.tr hk_b0).1 (by decide) (hl.tr hk_b0).2.1) ?_
          refine Q.run zm60 6 (i' := 19) (ls' := [some (.ref b0), some (.int x1), some (.int x2), some (.int x3)]) (st' := [.int x3, .int ((x1 * 11) + x2), .ref (b0 + 1)]) rfl ?_
          obtain ⟨hc5, h⟩ := ite_so h
          obtain ⟨s6, hs7, h⟩ := nx_so h
          refine Q.is hs7 (hl.g3a hk_b0) (gI_of zm60 (e := (33, 1, .iastore, [])) rfl) (by have := (hl.tr hk_b0).2.2.2.1; omega) (by have := (hl.tr hk_b0).2.2.2.2.2.2.2; omega) (hl.tr hk_b0).2.2.2.2.1 hc5 ?_
          have hl8 : Ly tt cc s6 := by rw [hs7]; exact hl.wId (by have := (hl.tr hk_b0).2.2.2.2.2.2.2; omega)
          have hr9 : aK s6 b0 3 := by rw [hs7]; exact hk_b0
          cases h
          exact Q.ret (A.rv zm60 (show zM60.2.2.2.2.2[20]? = some (34, 1, .return_, []) from rfl) rfl) hl8
/-! 58 FormulaTrees$Tree.lose(I)V -/
set_option maxRecDepth 100000 in
theorem zm58 : zP[58]? = some zM58 := rfl
def dm58 (b0 : Nat) (x1 : Int32) (s : aS) : Option (aS) :=
  bu (dm59 b0 x1 2 0 s) fun s3 =>
  bu (dm60 b0 x1 8 4 s3) fun s7 =>
  some s7
set_option maxRecDepth 100000 in
theorem dt58 {sio : Bool} {tt : Nat} {cc : Nat → Nat → Int32} {d : Nat} (hd : 1 ≤ d) {b0 : Nat} {x1 : Int32} {s : aS} (hl : Ly tt cc s) (hk_b0 : aK s b0 3) {o : aS} (h : dm58  b0 x1 s = some o) : Q 1 sio tt cc d 58 0 [some (.ref b0), some (.int x1)] [] s (.inl none, o) := by
  unfold dm58 at h
  obtain ⟨d, rfl⟩ : ∃ e, d = e + 1 := ⟨d - 1, by omega⟩
  refine Q.run zm58 4 (i' := 4) (ls' := [some (.ref b0), some (.int x1)]) (st' := [.int 0, .int 2, .int x1, .ref b0]) rfl ?_
  obtain ⟨s3, hc2, h⟩ := bu_so h
  have hq1 : Q 1 sio tt cc d 59 0 [some (.ref b0), some (.int x1), some (.int 2), some (.int 0), none, none] [] s (.inl none, s3) := dt59 (by omega) hl hk_b0 hc2
  refine Q.callV (gC_vi zm58 (show zM58.2.2.2.2.2[4]? = some (4, 3, .invokevirtual 43, [0, 59, 3, 3]) from rfl) zm59 hk_b0.1 (hl.tr hk_b0).1 rfl (show aCr 3 b0 [.int 0, .int 2, .int x1, .ref b0] 6 = some ([some (.ref b0), some (.int x1), some (.int 2), some (.int 0), none, none], []) from rfl)) hq1 ?_
  have hr4 : aK s3 b0 3 := hq1.2.1.k hk_b0
  refine Q.run zm58 4 (i' := 9) (ls' := [some (.ref b0), some (.int x1)]) (st' := [.int 4, .int 8, .int x1, .ref b0]) rfl ?_
  obtain ⟨s7, hc6, h⟩ := bu_so h
  have hq5 : Q 1 sio tt cc d 60 0 [some (.ref b0), some (.int x1), some (.int 8), some (.int 4)] [] s3 (.inl none, s7) := dt60 (by omega) hq1.1 hr4 hc6
  refine Q.callV (gC_vi zm58 (show zM58.2.2.2.2.2[9]? = some (12, 3, .invokevirtual 51, [0, 60, 3, 3]) from rfl) zm60 hr4.1 (hq1.1.tr hr4).1 rfl (show aCr 3 b0 [.int 4, .int 8, .int x1, .ref b0] 4 = some ([some (.ref b0), some (.int x1), some (.int 8), some (.int 4)], []) from rfl)) hq5 ?_
  have hr8 : aK s7 b0 3 := hq5.2.1.k hr4
  cases h
  exact Q.ret (A.rv zm58 (show zM58.2.2.2.2.2[10]? = some (15, 1, .return_, []) from rfl) rfl) hq5.1
/-! 56 FormulaTrees$Tree.loseSheet(I)V -/
set_option maxRecDepth 100000 in
theorem zm56 : zP[56]? = some zM56 := rfl
def dm56_28 (k2 : Nat → Int32 → Int32 → aS → Option (aS)) (b0 : Nat) (x1 : Int32) (x2 : Int32) (s : aS) : Option (aS) :=
  k2 b0 x1 (x2 + 1) s
set_option maxRecDepth 100000 in
theorem dt56_28 {sio : Bool} {tt : Nat} {cc : Nat → Nat → Int32} {d : Nat} (hd : 2 ≤ d) {k2 : Nat → Int32 → Int32 → aS → Option (aS)} (hk2 : ∀ {b0 : Nat} {x1 : Int32} {x2 : Int32} {g3 : Option Value} {s : aS}, Ly tt cc s → aK s b0 3 → ∀ {o : aS}, k2 b0 x1 x2 s = some o → Q 1 sio tt cc d 56 2 [some (.ref b0), some (.int x1), some (.int x2), g3] [] s (.inl none, o)) {b0 : Nat} {x1 : Int32} {x2 : Int32} {x3 : Int32} {s : aS} (hl : Ly tt cc s) (hk_b0 : aK s b0 3) {o : aS} (h : dm56_28 k2 b0 x1 x2 s = some o) : Q 1 sio tt cc d 56 28 [some (.ref b0), some (.int x1), some (.int x2), some (.int x3)] [] s (.inl none, o) := by
  unfold dm56_28 at h
  obtain ⟨d, rfl⟩ : ∃ e, d = e + 1 := ⟨d - 1, by omega⟩
  refine Q.run zm56 2 (i' := 2) (ls' := [some (.ref b0), some (.int x1), some (.int (x2 + 1)), some (.int x3)]) (st' := []) rfl ?_
  exact hk2 hl hk_b0 h
def dm56_2 : Nat → Nat → Int32 → Int32 → aS → Option (aS)
  | 0, _, _, _, _ => none
  | n + 1, b0, x1, x2, s =>
    if (sI s b0 2) ≤ x2 then
      some s
    else
      bu (dm57 b0 x2 2 s) fun r4 =>
      if r4 = x1 then
        bu (dm58 b0 x2 s) fun s8 =>
        dm56_28 (dm56_2 n) b0 x1 x2 s8
      else
        if r4 ≤ x1 then
          dm56_28 (dm56_2 n) b0 x1 x2 s
        else
          bu (dm60 b0 x2 2 (r4 - 1) s) fun s13 =>
          dm56_28 (dm56_2 n) b0 x1 x2 s13
set_option maxRecDepth 100000 in
theorem dt56_2 {sio : Bool} {tt : Nat} {cc : Nat → Nat → Int32} {d : Nat} (hd : 2 ≤ d) : ∀ (n : Nat) {b0 : Nat} {x1 : Int32} {x2 : Int32} {g3 : Option Value} {s : aS} (_ : Ly tt cc s) (_ : aK s b0 3) {o : aS} (_ : dm56_2  n b0 x1 x2 s = some o), Q 1 sio tt cc d 56 2 [some (.ref b0), some (.int x1), some (.int x2), g3] [] s (.inl none, o) := by
  obtain ⟨d, rfl⟩ : ∃ e, d = e + 1 := ⟨d - 1, by omega⟩
  intro n
  induction n with
  | zero => intro b0 x1 x2 g3 s hl hk_b0 o h; rw [dm56_2] at h; cases h
  | succ n ih =>
    intro b0 x1 x2 g3 s hl hk_b0 o h
    rw [dm56_2] at h
    refine Q.run zm56 2 (i' := 4) (ls' := [some (.ref b0), some (.int x1), some (.int x2), g3]) (st' := [.ref b0, .int x2]) rfl ?_
    refine Q.map (A.gf (gI_of zm56 (e := (4, 3, .getfield 24, [3, 2])) rfl) hk_b0.1 (hl.tr hk_b0).1 (by decide) rfl) ?_
    by_cases hc1 : (sI s b0 2) ≤ x2
    · rw [if_pos hc1] at h
      refine Q.map (A.bT (gI_of zm56 (e := (7, 3, .if_icmp .ge 43, [30])) rfl) (decide_eq_true hc1)) ?_
      cases h
      exact Q.ret (A.rv zm56 (show zM56.2.2.2.2.2[30]? = some (50, 1, .return_, []) from rfl) rfl) hl
    · rw [if_neg hc1] at h
      refine Q.map (A.bF (gI_of zm56 (e := (7, 3, .if_icmp .ge 43, [30])) rfl) (fun q => hc1 (of_decide_eq_true q))) ?_
      refine Q.run zm56 3 (i' := 9) (ls' := [some (.ref b0), some (.int x1), some (.int x2), g3]) (st' := [.int 2, .int x2, .ref b0]) rfl ?_
      obtain ⟨r4, hc3, h⟩ := bu_so h
      have hq2 : Q 1 sio tt cc d 57 0 [some (.ref b0), some (.int x2), some (.int 2), none] [] s (.inl (some (.int r4)), s) := dt57 (by omega) hl hk_b0 hc3
      refine Q.callI (gC_vi zm56 (show zM56.2.2.2.2.2[9]? = some (13, 3, .invokevirtual 28, [0, 57, 2, 3]) from rfl) zm57 hk_b0.1 (hl.tr hk_b0).1 rfl (show aCr 2 b0 [.int 2, .int x2, .ref b0] 4 = some ([some (.ref b0), some (.int x2), some (.int 2), none], []) from rfl)) hq2 ?_
      refine Q.run zm56 3 (i' := 13) (ls' := [some (.ref b0), some (.int x1), some (.int x2), some (.int r4)]) (st' := [.int x1, .int r4]) rfl ?_
      by_cases hc5 : r4 = x1
      · rw [if_pos hc5] at h
        refine Q.map (A.bF (gI_of zm56 (e := (19, 3, .if_icmp .ne 11, [18])) rfl) (fun q => of_decide_eq_true q hc5)) ?_
        refine Q.run zm56 2 (i' := 16) (ls' := [some (.ref b0), some (.int x1), some (.int x2), some (.int r4)]) (st' := [.int x2, .ref b0]) rfl ?_
        obtain ⟨s8, hc7, h⟩ := bu_so h
        have hq6 : Q 1 sio tt cc d 58 0 [some (.ref b0), some (.int x2)] [] s (.inl none, s8) := dt58 (by omega) hl hk_b0 hc7
        refine Q.callV (gC_vi zm56 (show zM56.2.2.2.2.2[16]? = some (24, 3, .invokevirtual 92, [0, 58, 1, 3]) from rfl) zm58 hk_b0.1 (hl.tr hk_b0).1 rfl (show aCr 1 b0 [.int x2, .ref b0] 2 = some ([some (.ref b0), some (.int x2)], []) from rfl)) hq6 ?_
        have hr9 : aK s8 b0 3 := hq6.2.1.k hk_b0
        refine Q.run zm56 1 (i' := 28) (ls' := [some (.ref b0), some (.int x1), some (.int x2), some (.int r4)]) (st' := []) rfl ?_
        exact dt56_28 hd ih hq6.1 hr9 h
      · rw [if_neg hc5] at h
        refine Q.map (A.bT (gI_of zm56 (e := (19, 3, .if_icmp .ne 11, [18])) rfl) (decide_eq_true hc5)) ?_
        refine Q.run zm56 2 (i' := 20) (ls' := [some (.ref b0), some (.int x1), some (.int x2), some (.int r4)]) (st' := [.int x1, .int r4]) rfl ?_
        by_cases hc10 : r4 ≤ x1
        · rw [if_pos hc10] at h
          refine Q.map (A.bT (gI_of zm56 (e := (32, 3, .if_icmp .le 12, [28])) rfl) (decide_eq_true hc10)) ?_
          exact dt56_28 hd ih hl hk_b0 h
        · rw [if_neg hc10] at h
          refine Q.map (A.bF (gI_of zm56 (e := (32, 3, .if_icmp .le 12, [28])) rfl) (fun q => hc10 (of_decide_eq_true q))) ?_
          refine Q.run zm56 6 (i' := 27) (ls' := [some (.ref b0), some (.int x1), some (.int x2), some (.int r4)]) (st' := [.int (r4 - 1), .int 2, .int x2, .ref b0]) rfl ?_
          obtain ⟨s13, hc12, h⟩ := bu_so h
          have hq11 : Q 1 sio tt cc d 60 0 [some (.ref b0), some (.int x2), some (.int 2), some (.int (r4 - 1))] [] s (.inl none, s13) := dt60 (by omega) hl hk_b0 hc12
          refine Q.callV (gC_vi zm56 (show zM56.2.2.2.2.2[27]? = some (41, 3, .invokevirtual 51, [0, 60, 3, 3]) from rfl) zm60 hk_b0.1 (hl.tr hk_b0).1 rfl (show aCr 3 b0 [.int (r4 - 1), .int 2, .int x2, .ref b0] 4 = some ([some (.ref b0), some (.int x2), some (.int 2), some (.int (r4 - 1))], []) from rfl)) hq11 ?_
          have hr14 : aK s13 b0 3 := hq11.2.1.k hk_b0
          exact dt56_28 hd ih hq11.1 hr14 h
def dm56 (b0 : Nat) (x1 : Int32) (s : aS) : Option (aS) :=
  dm56_2 5000 b0 x1 0 s
set_option maxRecDepth 100000 in
theorem dt56 {sio : Bool} {tt : Nat} {cc : Nat → Nat → Int32} {d : Nat} (hd : 2 ≤ d) {b0 : Nat} {x1 : Int32} {s : aS} (hl : Ly tt cc s) (hk_b0 : aK s b0 3) {o : aS} (h : dm56  b0 x1 s = some o) : Q 1 sio tt cc d 56 0 [some (.ref b0), some (.int x1), none, none] [] s (.inl none, o) := by
  unfold dm56 at h
  obtain ⟨d, rfl⟩ : ∃ e, d = e + 1 := ⟨d - 1, by omega⟩
  refine Q.run zm56 2 (i' := 2) (ls' := [some (.ref b0), some (.int x1), some (.int 0), none]) (st' := []) rfl ?_
  exact dt56_2 hd _ hl hk_b0 h
/-! 61 FormulaTrees.homeWithout(II)I -/
set_option maxRecDepth 100000 in
theorem zm61 : zP[61]? = some zM61 := rfl
def dm61 (x0 : Int32) (x1 : Int32) : Option (Int32) :=
  if x0 = x1 then
    some (-1)
  else
    if x0 ≤ x1 then
      some x0
    else
      some (x0 - 1)
set_option maxRecDepth 100000 in
theorem dt61 {sio : Bool} {tt : Nat} {cc : Nat → Nat → Int32} {d : Nat} (hd : 0 ≤ d) {x0 : Int32} {x1 : Int32} {s : aS} (hl : Ly tt cc s) {o : Int32} (h : dm61  x0 x1 = some o) : Q 1 sio tt cc d 61 0 [some (.int x0), some (.int x1)] [] s (.inl (some (.int o)), s) := by
  unfold dm61 at h
  refine Q.run zm61 2 (i' := 2) (ls' := [some (.int x0), some (.int x1)]) (st' := [.int x1, .int x0]) rfl ?_
  by_cases hc1 : x0 = x1
  · rw [if_pos hc1] at h
    refine Q.map (A.bF (gI_of zm61 (e := (2, 3, .if_icmp .ne 5, [5])) rfl) (fun q => of_decide_eq_true q hc1)) ?_
    refine Q.run zm61 1 (i' := 4) (ls' := [some (.int x0), some (.int x1)]) (st' := [.int (-1)]) rfl ?_
    cases h
    exact Q.ret (A.ri zm61 (show zM61.2.2.2.2.2[4]? = some (6, 1, .ireturn, []) from rfl) rfl rfl) hl
  · rw [if_neg hc1] at h
    refine Q.map (A.bT (gI_of zm61 (e := (2, 3, .if_icmp .ne 5, [5])) rfl) (decide_eq_true hc1)) ?_
    refine Q.run zm61 2 (i' := 7) (ls' := [some (.int x0), some (.int x1)]) (st' := [.int x1, .int x0]) rfl ?_
    by_cases hc2 : x0 ≤ x1
    · rw [if_pos hc2] at h
      refine Q.map (A.bT (gI_of zm61 (e := (9, 3, .if_icmp .le 9, [12])) rfl) (decide_eq_true hc2)) ?_
      refine Q.run zm61 1 (i' := 13) (ls' := [some (.int x0), some (.int x1)]) (st' := [.int x0]) rfl ?_
      cases h
      exact Q.ret (A.ri zm61 (show zM61.2.2.2.2.2[13]? = some (19, 1, .ireturn, []) from rfl) rfl rfl) hl
    · rw [if_neg hc2] at h
      refine Q.map (A.bF (gI_of zm61 (e := (9, 3, .if_icmp .le 9, [12])) rfl) (fun q => hc2 (of_decide_eq_true q))) ?_
      refine Q.run zm61 4 (i' := 13) (ls' := [some (.int x0), some (.int x1)]) (st' := [.int (x0 - 1)]) rfl ?_
      cases h
      exact Q.ret (A.ri zm61 (show zM61.2.2.2.2.2[13]? = some (19, 1, .ireturn, []) from rfl) rfl rfl) hl
end
