/-! RUNS over the heap as functions: a rule an instruction -/
abbrev jN (j : Int32) : Nat := j.toNatClampNeg
/-- an index that fits -/
abbrev aB (j : Int32) (n : Nat) : Prop := ¬ j < 0 ∧ jN j < n
def nC (x : Int32) : Int32 := x.toUInt32.toUInt16.toUInt32.toInt32
def nB (c : Nat) (x : Int32) : Int32 := if c = 103 then x &&& 1 else x.toInt8.toInt32
/-- a step that does not look at the heap -/
def pS (Cs : List Value) (ins : Instr) (ax : List Nat) (i : Nat) (ls : xL) (st : List Value) : Option (Nat × xL × List Value) := match xS ins st with
  | some st' => some (i + 1, ls, st')
  | none => match xV ins ls st with
    | some (ls', st') => some (i + 1, ls', st')
    | none => match xB ins ax i st with
      | some (i', st') => some (i', ls, st')
      | none => match xT Cs ins ax st with
        | some st' => some (i + 1, ls, st')
        | none => none
/-- many of them -/
def pRun (Cs : List Value) (es : List xE) : Nat → Nat → xL → List Value → Option (Nat × xL × List Value)
  | 0, i, ls, st => some (i, ls, st)
  | n + 1, i, ls, st => match es[i]? with
    | none => none
    | some (_, _, ins, ax) => match pS Cs ins ax i ls st with
      | none => none
      | some (i', ls', st') => pRun Cs es n i' ls' st'
def A (P : List xQ6) (Cs : List Value) (K : Nat) (Ty : List (List Nat)) (d k i : Nat) (ls : xL) (st : List Value) (s : aS) (o : xZ × aS) : Prop := G P Cs K d k i ls st (hOf Ty s) (o.1, hOf Ty o.2)
section AR
variable {P : List xQ6} {Cs : List Value} {K : Nat} {Ty : List (List Nat)} {d k i : Nat} {ls : xL} {st : List Value} {s : aS} {o : xZ × aS}
theorem xT_only {ins : Instr} {ax : List Nat} {st st' : List Value} {hp : xH} (h : xT Cs ins ax st = some st') : xR ins ax st hp = none ∧ xW K ins ax st hp = none ∧ xA ins ax st hp = none := by
  unfold xT at h
  split at h
  · exact ⟨rfl, rfl, rfl⟩
  · exact ⟨rfl, rfl, rfl⟩
  · exact ⟨rfl, rfl, rfl⟩
  · exact ⟨rfl, rfl, rfl⟩
  · cases h
theorem gS_pS {ins : Instr} {ax : List Nat} {i' : Nat} {ls' : xL} {st' : List Value} {hp : xH} (hi : gI P k i = some (ins, ax)) (h : pS Cs ins ax i ls st = some (i', ls', st')) : gS P Cs K k i ls st hp = some (i', ls', st', hp) := by
  unfold gS
  rw [hi]
  unfold pS at h
  simp only
  unfold x1
  split at h
  · rename_i q hq
    cases h
    simp only [hq]
  · rename_i hq
    split at h
    · rename_i l2 s2 h2
      cases h
      simp only [hq, h2]
    · rename_i h2
      split at h
      · rename_i i3 s3 h3
        cases h
        simp only [hq, h2, h3]
      · rename_i h3
        split at h
        · rename_i s4 h4
          cases h
          obtain ⟨e1, e2, e3⟩ := xT_only (K := K) (hp := hp) h4
          simp only [hq, h2, h3, e1, e2, e3, h4]
        · cases h
theorem A.ss {ins : Instr} {ax : List Nat} {i' : Nat} {ls' : xL} {st' : List Value} (hi : gI P k i = some (ins, ax)) (h : pS Cs ins ax i ls st = some (i', ls', st')) (g : A P Cs K Ty d k i' ls' st' s o) : A P Cs K Ty d k i ls st s o := G.s (gS_pS hi h) g
theorem A.run {M : xQ6} (hM : P[k]? = some M) : ∀ (n : Nat) {i i' : Nat} {ls ls' : xL} {st st' : List Value}, pRun Cs M.2.2.2.2.2 n i ls st = some (i', ls', st') → A P Cs K Ty d k i' ls' st' s o → A P Cs K Ty d k i ls st s o := by
  intro n
  induction n with
  | zero =>
    intro i i' ls ls' st st' h g
    cases h
    exact g
  | succ n ih =>
    intro i i' ls ls' st st' h g
    rw [pRun] at h
    split at h
    · cases h
    · rename_i a b ins ax hE
      split at h
      · cases h
      · rename_i i2 ls2 st2 h2
        exact A.ss (ins := ins) (ax := ax) (by unfold gI; simp only [hM, hE]) h2 (ih h g)
theorem A.bT {c : ClassFile.Cond} {q : Int} {t : Nat} {x y : Int32} (hi : gI P k i = some (.if_icmp c q, [t])) (h : xcn c x y = true) (g : A P Cs K Ty d k t ls st s o) : A P Cs K Ty d k i ls (.int y :: .int x :: st) s o := A.ss hi (by show some (if xcn c x y = true then t else i + 1, ls, st) = _; rw [if_pos h]) g
theorem A.bF {c : ClassFile.Cond} {q : Int} {t : Nat} {x y : Int32} (hi : gI P k i = some (.if_icmp c q, [t])) (h : ¬ xcn c x y = true) (g : A P Cs K Ty d k (i + 1) ls st s o) : A P Cs K Ty d k i ls (.int y :: .int x :: st) s o := A.ss hi (by show some (if xcn c x y = true then t else i + 1, ls, st) = _; rw [if_neg h]) g
theorem A.zT {c : ClassFile.Cond} {q : Int} {t : Nat} {x : Int32} (hi : gI P k i = some (.ifCond c q, [t])) (h : xcn c x 0 = true) (g : A P Cs K Ty d k t ls st s o) : A P Cs K Ty d k i ls (.int x :: st) s o := A.ss hi (by show some (if xcn c x 0 = true then t else i + 1, ls, st) = _; rw [if_pos h]) g
theorem A.zF {c : ClassFile.Cond} {q : Int} {t : Nat} {x : Int32} (hi : gI P k i = some (.ifCond c q, [t])) (h : ¬ xcn c x 0 = true) (g : A P Cs K Ty d k (i + 1) ls st s o) : A P Cs K Ty d k i ls (.int x :: st) s o := A.ss hi (by show some (if xcn c x 0 = true then t else i + 1, ls, st) = _; rw [if_neg h]) g
/-- a switch, where its value's place is known -/
theorem A.ts {q : Int} {lo hi' : Int} {js : Array Int} {t0 : Nat} {ts : List Nat} {x : Int32} {t : Nat} (hi : gI P k i = some (.tableswitch q lo hi' js, t0 :: ts)) (h : (if x.toInt < lo ∨ hi' < x.toInt then some t0 else ts[(x.toInt - lo).toNat]?) = some t) (g : A P Cs K Ty d k t ls st s o) : A P Cs K Ty d k i ls (.int x :: st) s o := A.ss hi (by
  show (match (if x.toInt < lo ∨ hi' < x.toInt then some (t0, st) else (ts[(x.toInt - lo).toNat]?).map fun t => (t, st)) with | some (i', st') => some (i', ls, st') | none => _) = _
  by_cases hq : x.toInt < lo ∨ hi' < x.toInt
  · rw [if_pos hq] at h ⊢
    cases h
    rfl
  · rw [if_neg hq] at h ⊢
    rw [h]
    rfl) g
theorem A.lk {q : Int} {ps : Array (Int × Int)} {t0 : Nat} {ts : List Nat} {x : Int32} {t : Nat} (hi : gI P k i = some (.lookupswitch q ps, t0 :: ts)) (h : xlk ps.toList ts t0 x.toInt = t) (g : A P Cs K Ty d k t ls st s o) : A P Cs K Ty d k i ls (.int x :: st) s o := A.ss hi (by show some (xlk ps.toList ts t0 x.toInt, ls, st) = _; rw [h]) g
/-- reading -/
theorem A.gf {q ci kk n a : Nat} {rs : List Nat} {v : Value} (hi : gI P k i = some (.getfield q, ci :: kk :: rs)) (ha : a < sL s) (hT : sT s a = (ci, n)) (hk : kk < n) (hv : aSlot (aTy Ty ci kk) s a kk = v) (g : A P Cs K Ty d k (i + 1) ls (v :: st) s o) : A P Cs K Ty d k i ls (.ref a :: st) s o := by
  refine G.s ?_ g
  unfold gS
  rw [hi]
  have e : xR (.getfield q) (ci :: kk :: rs) (.ref a :: st) (hOf Ty s) = some (v :: st) := by
    show (match (hOf Ty s)[a]? with | some (c, vs) => if c = ci then (vs[kk]?).map fun v => v :: st else none | none => none) = _
    rw [hOf_get ha]
    show (if (sT s a).1 = ci then ((aCell Ty s a).2[kk]?).map fun v => v :: st else none) = _
    rw [if_pos (by rw [hT]), aCell_get (by rw [hT]; exact hk), hT, hv]
    rfl
  show (match x1 K (.getfield q) (ci :: kk :: rs) i ls (.ref a :: st) (hOf Ty s) with | some q => some q | none => _) = _
  unfold x1
  show (match (match xR (.getfield q) (ci :: kk :: rs) (.ref a :: st) (hOf Ty s) with | some st' => some (i + 1, ls, st', hOf Ty s) | none => _) with | some q => some q | none => _) = _
  rw [e]
theorem aX {ins : Instr} {ax : List Nat} {st' : List Value} (hi : gI P k i = some (ins, ax)) (h1 : xS ins st = none) (h2 : xV ins ls st = none) (h3 : xB ins ax i st = none) (h : xR ins ax st (hOf Ty s) = some st') (g : A P Cs K Ty d k (i + 1) ls st' s o) : A P Cs K Ty d k i ls st s o := by
  refine G.s ?_ g
  unfold gS
  rw [hi]
  simp only [x1, h1, h2, h3, h]
theorem A.al {a c n : Nat} {ax : List Nat} (hi : gI P k i = some (.arraylength, ax)) (ha : a < sL s) (hT : sT s a = (c, n)) (hc : 100 ≤ c) (g : A P Cs K Ty d k (i + 1) ls (.int (Int32.ofNat n) :: st) s o) : A P Cs K Ty d k i ls (.ref a :: st) s o := by
  refine aX hi rfl rfl rfl ?_ g
  show (match (hOf Ty s)[a]? with | some (c, vs) => if 100 ≤ c then some (Value.int (Int32.ofNat vs.length) :: st) else none | none => none) = _
  rw [hOf_get ha]
  show (if 100 ≤ (sT s a).1 then some (Value.int (Int32.ofNat (aCell Ty s a).2.length) :: st) else none) = _
  rw [if_pos (by rw [hT]; exact hc), aCell_len, hT]
theorem axat_ok {a c n : Nat} {j : Int32} {b : Bool} (hT : sT s a = (c, n)) (hb : b = true) (hj : aB j n) : xat b (aCell Ty s a).2 j = some (aSlot (aTy Ty c (jN j)) s a (jN j)) := by
  unfold xat
  rw [if_pos ⟨hb, hj.1⟩, aCell_get (by rw [hT]; exact hj.2), hT]
theorem A.ia {a n : Nat} {j : Int32} {ax : List Nat} (hi : gI P k i = some (.iaload, ax)) (ha : a < sL s) (hT : sT s a = (100, n)) (hj : aB j n) (g : A P Cs K Ty d k (i + 1) ls (.int (sI s a (jN j)) :: st) s o) : A P Cs K Ty d k i ls (.int j :: .ref a :: st) s o := by
  refine aX hi rfl rfl rfl ?_ g
  show (match (hOf Ty s)[a]? with | some (c, vs) => (xat (c == 100) vs j).map fun v => v :: st | none => none) = _
  rw [hOf_get ha]
  show (xat ((sT s a).1 == 100) (aCell Ty s a).2 j).map _ = _
  rw [axat_ok hT (by rw [hT]; rfl) hj]
  rfl
theorem A.ba {a c n : Nat} {j : Int32} {ax : List Nat} (hi : gI P k i = some (.baload, ax)) (ha : a < sL s) (hT : sT s a = (c, n)) (hc : c = 101 ∨ c = 103) (hj : aB j n) (g : A P Cs K Ty d k (i + 1) ls (.int (sI s a (jN j)) :: st) s o) : A P Cs K Ty d k i ls (.int j :: .ref a :: st) s o := by
  refine aX hi rfl rfl rfl ?_ g
  show (match (hOf Ty s)[a]? with | some (c, vs) => (xat (c == 101 || c == 103) vs j).map fun v => v :: st | none => none) = _
  rw [hOf_get ha]
  show (xat ((sT s a).1 == 101 || (sT s a).1 == 103) (aCell Ty s a).2 j).map _ = _
  rw [axat_ok hT (by rw [hT]; rcases hc with rfl | rfl <;> rfl) hj]
  rcases hc with rfl | rfl <;> rfl
theorem A.ca {a n : Nat} {j : Int32} {ax : List Nat} (hi : gI P k i = some (.caload, ax)) (ha : a < sL s) (hT : sT s a = (102, n)) (hj : aB j n) (g : A P Cs K Ty d k (i + 1) ls (.int (sI s a (jN j)) :: st) s o) : A P Cs K Ty d k i ls (.int j :: .ref a :: st) s o := by
  refine aX hi rfl rfl rfl ?_ g
  show (match (hOf Ty s)[a]? with | some (c, vs) => (xat (c == 102) vs j).map fun v => v :: st | none => none) = _
  rw [hOf_get ha]
  show (xat ((sT s a).1 == 102) (aCell Ty s a).2 j).map _ = _
  rw [axat_ok hT (by rw [hT]; rfl) hj]
  rfl
theorem A.la {a n : Nat} {j : Int32} {ax : List Nat} (hi : gI P k i = some (.laload, ax)) (ha : a < sL s) (hT : sT s a = (104, n)) (hj : aB j n) (g : A P Cs K Ty d k (i + 1) ls (.long (sJ s a (jN j)) :: st) s o) : A P Cs K Ty d k i ls (.int j :: .ref a :: st) s o := by
  refine aX hi rfl rfl rfl ?_ g
  show (match (hOf Ty s)[a]? with | some (c, vs) => (xat (c == 104) vs j).map fun v => v :: st | none => none) = _
  rw [hOf_get ha]
  show (xat ((sT s a).1 == 104) (aCell Ty s a).2 j).map _ = _
  rw [axat_ok hT (by rw [hT]; rfl) hj]
  rfl
theorem A.aa {a c n : Nat} {j : Int32} {ax : List Nat} {v : Value} (hi : gI P k i = some (.aaload, ax)) (ha : a < sL s) (hT : sT s a = (c, n)) (hc : 110 ≤ c) (hj : aB j n) (hv : sR s a (jN j) = v) (g : A P Cs K Ty d k (i + 1) ls (v :: st) s o) : A P Cs K Ty d k i ls (.int j :: .ref a :: st) s o := by
  refine aX hi rfl rfl rfl ?_ g
  show (match (hOf Ty s)[a]? with | some (c, vs) => (xat (decide (110 ≤ c)) vs j).map fun v => v :: st | none => none) = _
  rw [hOf_get ha]
  show (xat (decide (110 ≤ (sT s a).1)) (aCell Ty s a).2 j).map _ = _
  rw [axat_ok hT (by rw [hT]; exact decide_eq_true hc) hj, show aTy Ty c (jN j) = 2 by unfold aTy; rw [if_neg (by omega), if_neg (by omega), if_neg (by omega), if_pos hc]]
  rw [← hv]
  rfl
/-- writing -/
theorem aW {ins : Instr} {ax : List Nat} {st' : List Value} {s' : aS} (hi : gI P k i = some (ins, ax)) (h1 : xS ins st = none) (h2 : xV ins ls st = none) (h3 : xB ins ax i st = none) (h4 : xR ins ax st (hOf Ty s) = none) (h : xW K ins ax st (hOf Ty s) = some (st', hOf Ty s')) (g : A P Cs K Ty d k (i + 1) ls st' s' o) : A P Cs K Ty d k i ls st s o := by
  refine G.s ?_ g
  unfold gS
  rw [hi]
  simp only [x1, h1, h2, h3, h4, h]
theorem xW_pf {q ci kk t n a : Nat} {rs : List Nat} {v : Value} {s' : aS} (ha : a < sL s) (hK : K ≤ a) (hT : sT s a = (ci, n)) (hk : kk < n) (hf : xfit t v = true) (he : (hOf Ty s).set a ((aCell Ty s a).1, (aCell Ty s a).2.set kk v) = hOf Ty s') : xW K (.putfield q) (ci :: kk :: t :: rs) (v :: .ref a :: st) (hOf Ty s) = some (st, hOf Ty s') := by
  show (match (hOf Ty s)[a]? with | some (c, vs) => if K ≤ a ∧ c = ci ∧ kk < vs.length ∧ xfit t v = true then some (st, (hOf Ty s).set a (c, vs.set kk v)) else none | none => none) = _
  rw [hOf_get ha]
  show (if K ≤ a ∧ (sT s a).1 = ci ∧ kk < (aCell Ty s a).2.length ∧ xfit t v = true then some (st, (hOf Ty s).set a ((aCell Ty s a).1, (aCell Ty s a).2.set kk v)) else none) = _
  rw [if_pos ⟨hK, by rw [hT], by rw [aCell_len, hT]; exact hk, hf⟩, he]
theorem A.pf {q ci kk t n a : Nat} {rs : List Nat} {v : Int32} (hi : gI P k i = some (.putfield q, ci :: kk :: t :: rs)) (ha : a < sL s) (hK : K ≤ a) (hT : sT s a = (ci, n)) (hk : kk < n) (ht : aTy Ty ci kk = 0) (hf : xfit t (.int v) = true) (g : A P Cs K Ty d k (i + 1) ls st (wI s a kk v) o) : A P Cs K Ty d k i ls (.int v :: .ref a :: st) s o :=
  aW hi rfl rfl rfl rfl (xW_pf ha hK hT hk hf (hOf_wI (by rw [hT]; exact hk) (by rw [hT]; exact ht))) g
theorem A.pr {q ci kk t n a : Nat} {rs : List Nat} {v : Value} (hi : gI P k i = some (.putfield q, ci :: kk :: t :: rs)) (ha : a < sL s) (hK : K ≤ a) (hT : sT s a = (ci, n)) (hk : kk < n) (ht : aTy Ty ci kk = 2) (hf : xfit t v = true) (g : A P Cs K Ty d k (i + 1) ls st (wR s a kk v) o) : A P Cs K Ty d k i ls (v :: .ref a :: st) s o :=
  aW hi rfl rfl rfl rfl (xW_pf ha hK hT hk hf (hOf_wR (by rw [hT]; exact hk) (by rw [hT]; exact ht))) g
theorem axup_ok {a c n : Nat} {j : Int32} {ok : Nat → Bool} {v : Nat → Value} {s' : aS} (ha : a < sL s) (hK : K ≤ a) (hT : sT s a = (c, n)) (hc : ok c = true) (hj : aB j n) (he : (hOf Ty s).set a ((aCell Ty s a).1, (aCell Ty s a).2.set (jN j) (v c)) = hOf Ty s') : xup K (hOf Ty s) a ok j v = some (hOf Ty s') := by
  unfold xup
  rw [hOf_get ha]
  show (if K ≤ a ∧ ok (sT s a).1 = true ∧ ¬ j < 0 ∧ j.toNatClampNeg < (aCell Ty s a).2.length then some ((hOf Ty s).set a ((sT s a).1, (aCell Ty s a).2.set j.toNatClampNeg (v (sT s a).1))) else none) = _
  rw [if_pos ⟨hK, by rw [hT]; exact hc, hj.1, by rw [aCell_len, hT]; exact hj.2⟩]
  rw [← he]
  show some ((hOf Ty s).set a ((sT s a).1, (aCell Ty s a).2.set j.toNatClampNeg (v (sT s a).1))) = some ((hOf Ty s).set a ((sT s a).1, (aCell Ty s a).2.set (jN j) (v c)))
  rw [hT]
theorem A.is {a n : Nat} {j v : Int32} {ax : List Nat} (hi : gI P k i = some (.iastore, ax)) (ha : a < sL s) (hK : K ≤ a) (hT : sT s a = (100, n)) (hj : aB j n) (g : A P Cs K Ty d k (i + 1) ls st (wI s a (jN j) v) o) : A P Cs K Ty d k i ls (.int v :: .int j :: .ref a :: st) s o := by
  refine aW hi rfl rfl rfl rfl ?_ g
  show (xup K (hOf Ty s) a _ j _).map _ = _
  rw [axup_ok (s' := wI s a (jN j) v) ha hK hT rfl hj (hOf_wI (by rw [hT]; exact hj.2) (by rw [hT]; rfl))]
  rfl
theorem A.cs {a n : Nat} {j v : Int32} {ax : List Nat} (hi : gI P k i = some (.castore, ax)) (ha : a < sL s) (hK : K ≤ a) (hT : sT s a = (102, n)) (hj : aB j n) (g : A P Cs K Ty d k (i + 1) ls st (wI s a (jN j) (nC v)) o) : A P Cs K Ty d k i ls (.int v :: .int j :: .ref a :: st) s o := by
  refine aW hi rfl rfl rfl rfl ?_ g
  show (xup K (hOf Ty s) a _ j _).map _ = _
  rw [axup_ok (s' := wI s a (jN j) (nC v)) ha hK hT rfl hj (hOf_wI (by rw [hT]; exact hj.2) (by rw [hT]; rfl))]
  rfl
theorem A.bs {a n : Nat} {j v : Int32} {ax : List Nat} (hi : gI P k i = some (.bastore, ax)) (ha : a < sL s) (hK : K ≤ a) (hT : sT s a = (103, n)) (hj : aB j n) (g : A P Cs K Ty d k (i + 1) ls st (wI s a (jN j) (v &&& 1)) o) : A P Cs K Ty d k i ls (.int v :: .int j :: .ref a :: st) s o := by
  refine aW hi rfl rfl rfl rfl ?_ g
  show (xup K (hOf Ty s) a _ j _).map _ = _
  rw [axup_ok (s' := wI s a (jN j) (v &&& 1)) ha hK hT rfl hj (hOf_wI (by rw [hT]; exact hj.2) (by rw [hT]; rfl))]
  rfl
theorem A.lS {a n : Nat} {j : Int32} {v : Int64} {ax : List Nat} (hi : gI P k i = some (.lastore, ax)) (ha : a < sL s) (hK : K ≤ a) (hT : sT s a = (104, n)) (hj : aB j n) (g : A P Cs K Ty d k (i + 1) ls st (wJ s a (jN j) v) o) : A P Cs K Ty d k i ls (.long v :: .int j :: .ref a :: st) s o := by
  refine aW hi rfl rfl rfl rfl ?_ g
  show (xup K (hOf Ty s) a _ j _).map _ = _
  rw [axup_ok (s' := wJ s a (jN j) v) ha hK hT rfl hj (hOf_wJ (by rw [hT]; exact hj.2) (by rw [hT]; rfl))]
  rfl
theorem A.as {a n b nb ci : Nat} {j : Int32} {rs : List Nat} (hi : gI P k i = some (.aastore, ci :: rs)) (ha : a < sL s) (hK : K ≤ a) (hc : ci < 100) (hT : sT s a = (110 + ci, n)) (hb : b < sL s) (hTb : sT s b = (ci, nb)) (hj : aB j n) (g : A P Cs K Ty d k (i + 1) ls st (wR s a (jN j) (.ref b)) o) : A P Cs K Ty d k i ls (.ref b :: .int j :: .ref a :: st) s o := by
  refine aW hi rfl rfl rfl rfl ?_ g
  show (match (hOf Ty s)[b]? with | some (cv, _) => if cv = ci ∧ ci < 100 then (xup K (hOf Ty s) a (fun c => c == 110 + ci) j (fun _ => .ref b)).map fun h => (st, h) else none | none => none) = _
  rw [hOf_get hb]
  show (if (sT s b).1 = ci ∧ ci < 100 then (xup K (hOf Ty s) a (fun c => c == 110 + ci) j (fun _ => .ref b)).map fun h => (st, h) else none) = _
  rw [if_pos ⟨by rw [hTb], hc⟩, axup_ok (s' := wR s a (jN j) (.ref b)) ha hK hT (by simp) hj (hOf_wR (by rw [hT]; exact hj.2) (by rw [hT]; show aTy Ty (110 + ci) (jN j) = 2; unfold aTy; rw [if_neg (by omega), if_neg (by omega), if_neg (by omega), if_pos (by omega)]))]
  rfl
/-- ends -/
theorem A.r {r : Option Value} (h : gR P Cs K k i ls st (hOf Ty s) = some r) : A P Cs K Ty d k i ls st s (.inl r, s) := G.r h
theorem gR_of {M : xQ6} {ins : Instr} {ax : List Nat} {r : Option Value} {a b : Nat} {hp : xH} (hM : P[k]? = some M) (hE : M.2.2.2.2.2[i]? = some (a, b, ins, ax)) (hn : x1 K ins ax i ls st hp = none) (ht : xT Cs ins ax st = none) (h : xret M.2.2.2.1 ins st = some r) : gR P Cs K k i ls st hp = some r := by
  unfold gR
  simp only [hM, hE, hn, ht, h]
theorem A.ri {M : xQ6} {a b : Nat} {ax : List Nat} {v : Int32} {ty : FieldType} (hM : P[k]? = some M) (hE : M.2.2.2.2.2[i]? = some (a, b, .ireturn, ax)) (hr : M.2.2.2.1 = some ty) (hf : xfit (xtc ty) (.int v) = true) : A P Cs K Ty d k i ls [.int v] s (.inl (some (.int v)), s) := A.r (gR_of hM hE rfl rfl (by rw [hr]; show (if xfit (xtc ty) (.int v) = true then some (some (Value.int v)) else none) = _; rw [if_pos hf]))
theorem A.rv {M : xQ6} {a b : Nat} {ax : List Nat} (hM : P[k]? = some M) (hE : M.2.2.2.2.2[i]? = some (a, b, .return_, ax)) (hr : M.2.2.2.1 = none) : A P Cs K Ty d k i ls [] s (.inl none, s) := A.r (gR_of hM hE rfl rfl (by rw [hr]; rfl))
theorem A.ra {M : xQ6} {a b : Nat} {ax : List Nat} {v : Value} {ty : FieldType} (hM : P[k]? = some M) (hE : M.2.2.2.2.2[i]? = some (a, b, .areturn, ax)) (hr : M.2.2.2.1 = some ty) (ht : xtc ty = 2) (hf : xfit 2 v = true) : A P Cs K Ty d k i ls [v] s (.inl (some v), s) := A.r (gR_of hM hE rfl rfl (by rw [hr]; show (if xtc ty = 2 ∧ xfit 2 v = true then some (some v) else none) = _; rw [if_pos ⟨ht, hf⟩]))
/-- a throw -/
theorem A.t {M : xQ6} {a b q c : Nat} {rs : List Nat} (hM : P[k]? = some M) (hE : M.2.2.2.2.2[i]? = some (a, b, .new q, c :: rs)) (hc : 200 ≤ c) (hd : 8 ≤ d) : A P Cs K Ty (d + 1) k i ls [] s (.inr (c - 200), nw s (80 + (c - 200)) 0) := by
  have h : gT P Cs K k i ls [] (hOf Ty s) = some (c - 200) := by
    unfold gT
    simp only [hM, hE]
    have e : x1 K (.new q) (c :: rs) i ls [] (hOf Ty s) = none := by
      show (match (if c < 80 then some ([Value.ref (hOf Ty s).length], hOf Ty s ++ [(c, rs.map xdef)]) else none) with | some (st', hp') => some (i + 1, ls, st', hp') | none => none) = _
      rw [if_neg (by omega)]
    simp only [e]
    show (if 200 ≤ c then some (c - 200) else none) = _
    rw [if_pos hc]
  have g := G.t (d := d) h hd
  have e2 := hOf_nw (Ty := Ty) (s := s) (c := 80 + (c - 200)) (n := 0)
  unfold A
  rw [← e2]
  exact g
/-- calls -/
def aC (n : Nat) (st : List Value) (mx : Nat) : Option (xL × List Value) := if n ≤ st.length ∧ ((st.drop n).map fun v : Value => v.category).sum ≤ 8 ∧ (xent (st.take n).reverse mx).length = mx then some (xent (st.take n).reverse mx, st.drop n) else none
theorem gC_of {M M1 : xQ6} {ins : Instr} {ax : List Nat} {a b k1 : Nat} {as r : List Value} {hp : xH} (hM : P[k]? = some M) (hE : M.2.2.2.2.2[i]? = some (a, b, ins, ax)) (h1 : x1 K ins ax i ls st hp = none) (h2 : xT Cs ins ax st = none) (h3 : xret M.2.2.2.1 ins st = none) (h4 : xsp K ins ax st hp = none) (h5 : xcall ins ax st hp = some (k1, as, r)) (hM1 : P[k1]? = some M1) (h6 : (xent as M1.2.2.1).length = M1.2.2.1) : gC P Cs K k i ls st hp = some (k1, xent as M1.2.2.1, r) := by
  unfold gC
  simp only [hM, hE, h1, h2, h3, h4, h5, hM1, if_pos h6]
theorem gC_st {M M1 : xQ6} {a b q k1 n : Nat} {rs : List Nat} {ls1 : xL} {r : List Value} {hp : xH} (hM : P[k]? = some M) (hE : M.2.2.2.2.2[i]? = some (a, b, .invokestatic q, 0 :: k1 :: n :: rs)) (hM1 : P[k1]? = some M1) (hx : aC n st M1.2.2.1 = some (ls1, r)) : gC P Cs K k i ls st hp = some (k1, ls1, r) := by
  unfold aC at hx
  split at hx
  · rename_i h
    cases hx
    refine gC_of hM hE rfl rfl ?_ rfl ?_ hM1 h.2.2
    · unfold xret; rfl
    · show (if n ≤ st.length ∧ ((st.drop n).map fun v : Value => v.category).sum ≤ 8 then some (k1, (st.take n).reverse, st.drop n) else none) = _
      rw [if_pos ⟨h.1, h.2.1⟩]
  · cases hx
/-- the receiver is the last of the n + 1 -/
def aCr (n a : Nat) (st : List Value) (mx : Nat) : Option (xL × List Value) := if ((st.drop (n + 1)).map fun v : Value => v.category).sum ≤ 8 ∧ (xent (.ref a :: (st.take n).reverse) mx).length = mx then some (xent (.ref a :: (st.take n).reverse) mx, st.drop (n + 1)) else none
theorem gC_sp {M M1 : xQ6} {a b q k1 n x : Nat} {rs : List Nat} {ls1 : xL} {r : List Value} {hp : xH} (hM : P[k]? = some M) (hE : M.2.2.2.2.2[i]? = some (a, b, .invokespecial q, 0 :: k1 :: n :: rs)) (hM1 : P[k1]? = some M1) (hr : st[n]? = some (.ref x)) (hx : aCr n x st M1.2.2.1 = some (ls1, r)) : gC P Cs K k i ls st hp = some (k1, ls1, r) := by
  unfold aCr at hx
  split at hx
  · rename_i h
    cases hx
    refine gC_of hM hE rfl rfl ?_ rfl ?_ hM1 h.2
    · unfold xret; rfl
    · show (match st[n]? with | some (.ref a) => if ((st.drop (n + 1)).map fun v : Value => v.category).sum ≤ 8 then some (k1, Value.ref a :: (st.take n).reverse, st.drop (n + 1)) else none | _ => none) = _
      rw [hr]
      show (if ((st.drop (n + 1)).map fun v : Value => v.category).sum ≤ 8 then some (k1, Value.ref x :: (st.take n).reverse, st.drop (n + 1)) else none) = _
      rw [if_pos h.1]
  · cases hx
theorem gC_vi {M M1 : xQ6} {a b q k1 n x ci m : Nat} {rs : List Nat} {ls1 : xL} {r : List Value} (hM : P[k]? = some M) (hE : M.2.2.2.2.2[i]? = some (a, b, .invokevirtual q, 0 :: k1 :: n :: ci :: rs)) (hM1 : P[k1]? = some M1) (ha : x < sL s) (hT : sT s x = (ci, m)) (hr : st[n]? = some (.ref x)) (hx : aCr n x st M1.2.2.1 = some (ls1, r)) : gC P Cs K k i ls st (hOf Ty s) = some (k1, ls1, r) := by
  unfold aCr at hx
  split at hx
  · rename_i h
    cases hx
    refine gC_of hM hE rfl rfl ?_ rfl ?_ hM1 h.2
    · unfold xret; rfl
    · show (match st[n]? with | some (.ref a) => (match (hOf Ty s)[a]? with | some (c, _) => if c = ci ∧ ((st.drop (n + 1)).map fun v : Value => v.category).sum ≤ 8 then some (k1, Value.ref a :: (st.take n).reverse, st.drop (n + 1)) else none | none => none) | _ => none) = _
      rw [hr]
      show (match (hOf Ty s)[x]? with | some (c, _) => if c = ci ∧ ((st.drop (n + 1)).map fun v : Value => v.category).sum ≤ 8 then some (k1, Value.ref x :: (st.take n).reverse, st.drop (n + 1)) else none | none => none) = _
      rw [hOf_get ha]
      show (if (sT s x).1 = ci ∧ ((st.drop (n + 1)).map fun v : Value => v.category).sum ≤ 8 then some (k1, Value.ref x :: (st.take n).reverse, st.drop (n + 1)) else none) = _
      rw [if_pos ⟨by rw [hT], h.1⟩]
  · cases hx
theorem A.c {k1 : Nat} {ls1 : xL} {r : List Value} {v : Option Value} {s1 : aS} (h : gC P Cs K k i ls st (hOf Ty s) = some (k1, ls1, r)) (h1 : A P Cs K Ty d k1 0 ls1 [] s (.inl v, s1)) (g : A P Cs K Ty (d + 1) k (i + 1) ls (v.toList ++ r) s1 o) : A P Cs K Ty (d + 1) k i ls st s o := G.c h h1 g
theorem A.h {k1 z t : Nat} {ls1 : xL} {r : List Value} {s1 : aS} (h : gC P Cs K k i ls st (hOf Ty s) = some (k1, ls1, r)) (h1 : A P Cs K Ty d k1 0 ls1 [] s (.inr z, s1)) (ht : gH P k i z = some t) (g : A P Cs K Ty (d + 1) k t ls [.ref (sL s1 - 1)] s1 o) : A P Cs K Ty (d + 1) k i ls st s o := by
  refine G.h h h1 ht ?_
  rw [hOf_len]
  exact g
end AR
