/-! the tables are checked by running this -/
def kIx (T0 : List Cond) (p : Nat) (w : Cond) : Bool := decide (T0[p]? = some w) && goodWord w
theorem kIx_ok {T0 : List Cond} {p : Nat} {w : Cond} (h : kIx T0 p w = true) : w ∈ T0.filter goodWord := by
  unfold kIx at h
  simp only [Bool.and_eq_true, decide_eq_true_eq] at h
  exact List.mem_filter.mpr ⟨List.mem_of_getElem? h.1, h.2⟩
def klnk (T0 Ns : List Cond) (cl : List vw_C) (nm own : String) (ins : Instr) (ax ps : List Nat) : Bool := match ins, ax with
  | .getfield idx, ci :: k :: _ => if ci = 70 then decide (k < 2) && kIx T0 (ps.getD 0 0) (Cond.fieldLink own idx "java/lang/String" (xsn k).1 (xsn k).2) else decide (ci < 70) && match cl[ci]? with
    | some q => decide (k < q.2.2) && kIx T0 (ps.getD 0 0) (Cond.fieldLink own idx (q.2.1 k).1 (q.2.1 k).2.1 (q.2.1 k).2.2.1)
    | none => false
  | .putfield idx, ci :: k :: t :: _ => decide (ci < 70) && match cl[ci]? with
    | some q => decide (k < q.2.2) && kIx T0 (ps.getD 0 0) (Cond.fieldLink own idx (q.2.1 k).1 (q.2.1 k).2.1 (q.2.1 k).2.2.1) && decide (t = xtc (xty0 q k)) && (decide ((q.2.1 k).2.2.2 = false) || (decide ((q.2.1 k).2.2.2 = true) && decide (nm = "<init>") && decide ((q.2.1 k).1 = own)))
    | none => false
  | .new idx, ci :: ts => if ci < 100 then match cl[ci]? with
    | some q => kIx T0 (ps.getD 0 0) (Cond.classLink own idx q.1) && kIx T0 (ps.getD 1 0) (Cond.instantiable q.1 q.2.2) && kIx T0 (ps.getD 2 0) (Cond.initialized q.1) && decide (ts = (List.range q.2.2).map fun k => xtc (xty0 q k))
    | none => false
    else true
  | .aastore, ci :: _ => decide (ci < 70) && (cl[ci]?).isSome
  | .newarray t, _ => kIx T0 (ps.getD 0 0) (Cond.arrayClass (newarray.typeOf t))
  | .anewarray idx, [ci] => match cl[ci]? with
    | some q => kIx T0 (ps.getD 0 0) (Cond.classLink own idx q.1) && decide (Cond.arrayOver (.object q.1) ∈ Ns)
    | none => false
  | _, _ => true
theorem klnk_ok {T0 Ns : List Cond} {cl : List vw_C} {nm own : String} {ins : Instr} {ax ps : List Nat} (h : klnk T0 Ns cl nm own ins ax ps = true) : xlnk (T0.filter goodWord) Ns cl nm own ins ax := by
  unfold klnk at h
  unfold xlnk
  split at h
  · split at h
    · rename_i hc
      simp only [Bool.and_eq_true, decide_eq_true_eq] at h
      exact Or.inr ⟨hc, h.1, kIx_ok h.2⟩
    · simp only [Bool.and_eq_true, decide_eq_true_eq] at h
      obtain ⟨h1, h2⟩ := h
      split at h2
      · rename_i q hq
        simp only [Bool.and_eq_true, decide_eq_true_eq] at h2
        exact Or.inl ⟨h1, q, hq, h2.1, kIx_ok h2.2⟩
      · cases h2
  · simp only [Bool.and_eq_true, decide_eq_true_eq] at h
    obtain ⟨h1, h2⟩ := h
    split at h2
    · rename_i q hq
      simp only [Bool.and_eq_true, Bool.or_eq_true, decide_eq_true_eq] at h2
      obtain ⟨⟨⟨a1, a2⟩, a3⟩, a4⟩ := h2
      refine ⟨h1, q, hq, a1, kIx_ok a2, a3, ?_⟩
      rcases a4 with a4 | ⟨⟨a4, a5⟩, a6⟩
      · exact Or.inl a4
      · exact Or.inr ⟨a4, a5, a6⟩
    · cases h2
  · intro hc
    rw [if_pos hc] at h
    split at h
    · rename_i q hq
      simp only [Bool.and_eq_true, decide_eq_true_eq] at h
      obtain ⟨⟨⟨a1, a2⟩, a3⟩, a4⟩ := h
      exact ⟨q, hq, kIx_ok a1, kIx_ok a2, kIx_ok a3, a4⟩
    · cases h
  · simp only [Bool.and_eq_true, decide_eq_true_eq] at h
    exact ⟨h.1, Option.isSome_iff_exists.mp h.2⟩
  · exact kIx_ok h
  · split at h
    · rename_i q hq
      simp only [Bool.and_eq_true, decide_eq_true_eq] at h
      exact ⟨q, hq, kIx_ok h.1, h.2⟩
    · cases h
  · split <;> first | trivial | (exfalso; simp_all; done) | (exfalso; simp_all; rename_i x; exact x _ _ _ _ rfl rfl rfl rfl) | (exfalso; simp_all; rename_i x; exact x _ _ _ _ _ rfl rfl rfl rfl rfl)
def kml (T0 Ns : List Cond) (own : String) (idx p : Nat) (y : MethodName) : Bool := kIx T0 p (Cond.methodLink own idx y) || decide (Cond.methodLinkNest own idx y "FormulaTrees" ∈ Ns)
theorem kml_ok {T0 Ns : List Cond} {own : String} {idx p : Nat} {y : MethodName} (h : kml T0 Ns own idx p y = true) : Cond.methodLink own idx y ∈ T0.filter goodWord ∨ ∃ host, Cond.methodLinkNest own idx y host ∈ Ns := by
  unfold kml at h
  simp only [Bool.or_eq_true, decide_eq_true_eq] at h
  rcases h with h | h
  · exact Or.inl (kIx_ok h)
  · exact Or.inr ⟨_, h⟩
def kclk (T0 Ns : List Cond) (cl : List vw_C) (P : List xQ6) (own : String) (ins : Instr) (ax ps : List Nat) : Bool := match ins, ax with
  | .invokestatic idx, 0 :: k :: n :: _ => decide (0 < k) && match P[k]? with
    | some M => kIx T0 (ps.getD 0 0) (Cond.static M.1) && kml T0 Ns own idx (ps.getD 1 0) M.1 && decide ((parseMethodDescriptor M.1.desc).map (fun d => d.parameters.length) = some n) && (M.2.2.2.2.1.isEmpty || Ns.all (fun w => match w with
      | .methodLinkNest o j _ _ => !(decide (o = own) && decide (j = idx))
      | _ => true))
    | none => false
  | .invokespecial idx, 0 :: k :: n :: _ => decide (0 < k) && match P[k]? with
    | some M => M.2.2.2.2.1.isEmpty && decide (M.1.name = "<init>") && decide (M.2.2.2.1 = none) && kIx T0 (ps.getD 0 0) (Cond.instanceMethod M.1) && kml T0 Ns own idx (ps.getD 1 0) M.1 && decide ((parseMethodDescriptor M.1.desc).map (fun d => d.parameters.length) = some n)
    | none => false
  | .invokevirtual idx, 0 :: k :: n :: ci :: _ => decide (0 < k) && decide (ci ≤ 70) && match P[k]?, xnm cl ci with
    | some M, some q => M.2.2.2.2.1.isEmpty && kIx T0 (ps.getD 0 0) (Cond.selects q M.1 M.1) && kIx T0 (ps.getD 1 0) (Cond.instanceMethod M.1) && kml T0 Ns own idx (ps.getD 2 0) M.1 && decide ((parseMethodDescriptor M.1.desc).map (fun d => d.parameters.length) = some n)
    | _, _ => false
  | .invokestatic idx, [2] => kIx T0 (ps.getD 0 0) (Cond.methodLink own idx arraycopyName) && kIx T0 (ps.getD 1 0) (Cond.native arraycopyName) && kIx T0 (ps.getD 2 0) (Cond.static arraycopyName) && kIx T0 (ps.getD 3 0) (Cond.initialized "java/lang/System")
  | .invokestatic idx, [3] => kIx T0 (ps.getD 0 0) (Cond.methodLink own idx Lib.Math.max.name) && kIx T0 (ps.getD 1 0) (Cond.static Lib.Math.max.name) && kIx T0 (ps.getD 2 0) (Cond.initialized "java/lang/Math") && kIx T0 (ps.getD 3 0) (Cond.code Lib.Math.max.name Lib.Math.max.code 2 (some .int))
  | .invokestatic idx, [4] => kIx T0 (ps.getD 0 0) (Cond.methodLink own idx Lib.Math.min.name) && kIx T0 (ps.getD 1 0) (Cond.static Lib.Math.min.name) && kIx T0 (ps.getD 2 0) (Cond.initialized "java/lang/Math") && kIx T0 (ps.getD 3 0) (Cond.code Lib.Math.min.name Lib.Math.min.code 2 (some .int))
  | .invokespecial idx, [1] => kIx T0 (ps.getD 0 0) (Cond.methodLink own idx Lib.objectInit) && kIx T0 (ps.getD 1 0) (Cond.instanceMethod Lib.objectInit) && kIx T0 (ps.getD 2 0) (Cond.code Lib.objectInit ⟨#[0xb1]⟩ 1 none)
  | _, _ => true
theorem kclk_ok {T0 Ns : List Cond} {cl : List vw_C} {P : List xQ6} {own : String} {ins : Instr} {ax ps : List Nat} (h : kclk T0 Ns cl P own ins ax ps = true) : xclk (T0.filter goodWord) Ns cl P own ins ax := by
  unfold kclk at h
  unfold xclk
  split at h
  · simp only [Bool.and_eq_true, decide_eq_true_eq] at h
    obtain ⟨h1, h2⟩ := h
    refine ⟨h1, fun M' hM' => ?_⟩
    rw [hM'] at h2
    simp only [Bool.and_eq_true, decide_eq_true_eq] at h2
    refine ⟨kIx_ok h2.1.1.1, kml_ok h2.1.1.2, h2.1.2, ?_⟩
    rintro ⟨hne, host, hm⟩
    have h9 := h2.2
    simp only [Bool.or_eq_true, List.isEmpty_iff] at h9
    rcases h9 with h9 | h9
    · exact hne h9
    · have := List.all_eq_true.mp h9 _ hm
      simp at this
  · simp only [Bool.and_eq_true, decide_eq_true_eq] at h
    obtain ⟨h1, h2⟩ := h
    refine ⟨h1, fun M' hM' => ?_⟩
    rw [hM'] at h2
    simp only [Bool.and_eq_true, decide_eq_true_eq, List.isEmpty_iff] at h2
    obtain ⟨⟨⟨⟨⟨a1, a2⟩, a3⟩, a4⟩, a5⟩, a6⟩ := h2
    exact ⟨a1, a2, a3, kIx_ok a4, kml_ok a5, a6⟩
  · simp only [Bool.and_eq_true, decide_eq_true_eq] at h
    obtain ⟨⟨h1, h0⟩, h2⟩ := h
    split at h2
    · rename_i M q hM hq
      simp only [Bool.and_eq_true, decide_eq_true_eq, List.isEmpty_iff] at h2
      obtain ⟨⟨⟨⟨a1, a2⟩, a3⟩, a4⟩, a5⟩ := h2
      refine ⟨h1, h0, q, hq, fun M' hM' => ?_⟩
      cases hM.symm.trans hM'
      exact ⟨a1, kIx_ok a2, kIx_ok a3, kml_ok a4, a5⟩
    · cases h2
  · simp only [Bool.and_eq_true] at h
    exact ⟨kIx_ok h.1.1.1, kIx_ok h.1.1.2, kIx_ok h.1.2, kIx_ok h.2⟩
  · simp only [Bool.and_eq_true] at h
    exact ⟨kIx_ok h.1.1.1, kIx_ok h.1.1.2, kIx_ok h.1.2, kIx_ok h.2⟩
  · simp only [Bool.and_eq_true] at h
    exact ⟨kIx_ok h.1.1.1, kIx_ok h.1.1.2, kIx_ok h.1.2, kIx_ok h.2⟩
  · simp only [Bool.and_eq_true] at h
    exact ⟨kIx_ok h.1.1, kIx_ok h.1.2, kIx_ok h.2⟩
  · rename_i h1 h2 h3 h4 h6 h7 h5
    split
    · exact absurd rfl (h1 _ _ _ _ rfl)
    · exact absurd rfl (h2 _ _ _ _ rfl)
    · exact absurd rfl (h3 _ _ _ _ _ rfl)
    · exact absurd rfl (h4 _ rfl)
    · exact absurd rfl (h6 _ rfl)
    · exact absurd rfl (h7 _ rfl)
    · exact absurd rfl (h5 _ rfl)
    · trivial
def ktg (f : Nat → Nat) (pc : Nat) (ins : Instr) (ax : List Nat) : Bool := match ins, ax with
  | .goto o, [t] => decide ((pc : Int) + o = (f t : Int))
  | .ifCond _ o, [t] => decide ((pc : Int) + o = (f t : Int))
  | .if_icmp _ o, [t] => decide ((pc : Int) + o = (f t : Int))
  | .ifnull o, [t] => decide ((pc : Int) + o = (f t : Int))
  | .ifnonnull o, [t] => decide ((pc : Int) + o = (f t : Int))
  | .tableswitch d _ _ os, t0 :: ts => decide ((pc : Int) + d = (f t0 : Int)) && decide (os.size = ts.length) && (os.toList.zip ts).all fun q => decide ((pc : Int) + q.1 = (f q.2 : Int))
  | .lookupswitch d ps, t0 :: ts => (ps.toList.zip (ps.toList.drop 1)).all (fun (a, next) => a.1 < next.1) && decide ((pc : Int) + d = (f t0 : Int)) && decide (ps.toList.length = ts.length) && (ps.toList.zip ts).all fun q => decide ((pc : Int) + q.1.2 = (f q.2 : Int))
  | _, _ => true
theorem zip_get {α β : Type} {l : List α} {m : List β} {j : Nat} {a : α} {b : β} (h1 : l[j]? = some a) (h2 : m[j]? = some b) : (a, b) ∈ l.zip m := by
  have : (l.zip m)[j]? = some (a, b) := by
    rw [List.getElem?_zip_eq_some]
    exact ⟨h1, h2⟩
  exact List.mem_of_getElem? this
theorem ktg_ok {f : Nat → Nat} {pc : Nat} {ins : Instr} {ax : List Nat} (h : ktg f pc ins ax = true) : xtg f pc ins ax := by
  unfold ktg at h
  unfold xtg
  split at h
  · exact of_decide_eq_true h
  · exact of_decide_eq_true h
  · exact of_decide_eq_true h
  · exact of_decide_eq_true h
  · exact of_decide_eq_true h
  · simp only [Bool.and_eq_true, decide_eq_true_eq] at h
    refine ⟨h.1.1, h.1.2, fun j o t h1 h2 => ?_⟩
    have := List.all_eq_true.mp h.2 _ (zip_get (l := _) (by rw [Array.getElem?_toList]; exact h1) h2)
    exact of_decide_eq_true this
  · simp only [Bool.and_eq_true, decide_eq_true_eq] at h
    refine ⟨h.1.1.1, h.1.1.2, h.1.2, fun j o t h1 h2 => ?_⟩
    have := List.all_eq_true.mp h.2 _ (zip_get h1 h2)
    exact of_decide_eq_true this
  · rename_i h1 h2 h3 h4 h5 h6 h7
    split
    · exact absurd rfl (h1 _ _ rfl)
    · exact absurd rfl (h2 _ _ _ rfl)
    · exact absurd rfl (h3 _ _ _ rfl)
    · exact absurd rfl (h4 _ _ rfl)
    · exact absurd rfl (h5 _ _ rfl)
    · exact absurd rfl (h6 _ _ _ _ _ _ rfl)
    · exact absurd rfl (h7 _ _ _ _ rfl)
    · trivial
def kvirt (T0 : List Cond) (P : List xQ6) (own : String) (ins : Instr) (ax ps : List Nat) : Bool := match ins, ax with
  | .invokestatic _, 0 :: _ => false
  | .invokespecial _, 0 :: _ => false
  | .invokevirtual idx, 0 :: k :: _ => match P[k]? with
    | some M => kIx T0 (ps.getD 2 0) (Cond.methodLink own idx M.1)
    | none => true
  | _, _ => true
theorem kvirt_ok {T0 : List Cond} {P : List xQ6} {own : String} {ins : Instr} {ax ps : List Nat} (h : kvirt T0 P own ins ax ps = true) : xvirt (T0.filter goodWord) P own ins ax := by
  unfold kvirt at h
  unfold xvirt
  split at h
  · cases h
  · cases h
  · intro M' hM'
    rw [hM'] at h
    exact kIx_ok h
  · rename_i h1 h2 h3
    split
    · exact h1 _ _ rfl rfl
    · exact h2 _ _ rfl rfl
    · exact absurd rfl (h3 _ _ _ rfl)
    · trivial
/-- one row of a method's table -/
def kE (T0 Ns : List Cond) (cl : List vw_C) (P : List xQ6) (M : xQ6) (hs : List Nat) (i : Nat) (E : xE) (ps : List Nat) : Bool :=
  decide (decode M.2.1 E.1 = .ok (E.2.2.1, E.2.1)) && (xsw E.2.2.1 || decide (E.2.1 = xLen E.2.2.1)) && (!xfl E.2.2.1 || decide (xpc M (i + 1) = E.1 + E.2.1)) && ktg (xpc M) E.1 E.2.2.1 E.2.2.2 && klnk T0 Ns cl M.1.name M.1.cls E.2.2.1 E.2.2.2 ps && kclk T0 Ns cl P M.1.cls E.2.2.1 E.2.2.2 ps &&
  (M.2.2.2.2.1.zip hs).all fun h => decide ((decide (xpc M h.1.1 ≤ E.1) && decide (E.1 < xpc M h.1.2.1)) = (decide (h.1.1 ≤ i) && decide (i < h.1.2.1))) && decide (h.1.2.2.2.2 ≠ 0) && (!(decide (h.1.1 ≤ i) && decide (i < h.1.2.1)) || kvirt T0 P M.1.cls E.2.2.1 E.2.2.2 ps) && match xen h.1.2.2.2.1 with
    | some C => kIx T0 h.2 (Cond.classLink M.1.cls h.1.2.2.2.2 C)
    | none => false
theorem kE_ok {T0 Ns : List Cond} {cl : List vw_C} {P : List xQ6} {M : xQ6} {hs : List Nat} {i : Nat} {E : xE} {ps : List Nat} (hl : hs.length = M.2.2.2.2.1.length) (h : kE T0 Ns cl P M hs i E ps = true) : xok (T0.filter goodWord) Ns cl P M i E := by
  unfold kE at h
  simp only [Bool.and_eq_true, Bool.or_eq_true, decide_eq_true_eq, Bool.not_eq_true'] at h
  obtain ⟨⟨⟨⟨⟨⟨h1, h2⟩, h3⟩, h4⟩, h5⟩, h6⟩, h7⟩ := h
  refine ⟨h1, h2, fun q => ?_, ktg_ok h4, klnk_ok h5, kclk_ok h6, fun x hx => ?_⟩
  · rcases h3 with h3 | h3
    · rw [q] at h3; cases h3
    · exact h3
  · obtain ⟨j, hj⟩ := List.getElem?_of_mem hx
    have hlt : j < hs.length := by rw [hl]; exact (List.getElem?_eq_some_iff.mp hj).1
    have hm := List.all_eq_true.mp h7 _ (zip_get hj (List.getElem?_eq_getElem hlt))
    simp only [Bool.and_eq_true, decide_eq_true_eq] at hm
    obtain ⟨⟨⟨a1, a2⟩, a4⟩, a3⟩ := hm
    refine ⟨?_, a2, ?_, fun q => ?_⟩
    · have e : ∀ {p q : Prop} [Decidable p] [Decidable q], decide p = decide q → (p ↔ q) := fun h => decide_eq_decide.mp h
      rw [← Bool.decide_and, ← Bool.decide_and] at a1
      exact e a1
    · split at a3
      · rename_i C hC
        exact ⟨C, hC, kIx_ok a3⟩
      · cases a3
    · simp only [Bool.or_eq_true, Bool.not_eq_true', Bool.and_eq_false_iff, decide_eq_false_iff_not] at a4
      rcases a4 with a4 | a4
      · rcases a4 with a4 | a4
        · exact absurd q.1 a4
        · exact absurd q.2 a4
      · exact kvirt_ok a4
def kL (T0 Ns : List Cond) (cl : List vw_C) (P : List xQ6) (M : xQ6) (hs : List Nat) : Nat → List xE → List (List Nat) → Bool
  | _, [], _ => true
  | i, E :: es, p :: ps => kE T0 Ns cl P M hs i E p && kL T0 Ns cl P M hs (i + 1) es ps
  | i, E :: es, [] => kE T0 Ns cl P M hs i E [] && kL T0 Ns cl P M hs (i + 1) es []
theorem kL_ok {T0 Ns : List Cond} {cl : List vw_C} {P : List xQ6} {M : xQ6} {hs : List Nat} (hl : hs.length = M.2.2.2.2.1.length) : ∀ (es : List xE) (i : Nat) (ps : List (List Nat)), kL T0 Ns cl P M hs i es ps = true → ∀ (j : Nat) (E : xE), es[j]? = some E → xok (T0.filter goodWord) Ns cl P M (i + j) E := by
  intro es
  induction es with
  | nil => intro i ps h j E hj; simp at hj
  | cons e es ih =>
    intro i ps h j E hj
    have key : ∀ (p : List Nat) (ps' : List (List Nat)), kE T0 Ns cl P M hs i e p = true → kL T0 Ns cl P M hs (i + 1) es ps' = true → xok (T0.filter goodWord) Ns cl P M (i + j) E := by
      intro p ps' g1 g2
      match j, hj with
      | 0, hj => cases hj; exact kE_ok hl g1
      | j + 1, hj =>
        have := ih (i + 1) ps' g2 j E hj
        rw [show i + (j + 1) = i + 1 + j by omega]
        exact this
    cases ps with
    | nil =>
      simp only [kL, Bool.and_eq_true] at h
      exact key [] [] h.1 h.2
    | cons p ps =>
      simp only [kL, Bool.and_eq_true] at h
      exact key p ps h.1 h.2
/-- a method's own word at its place: its bytes are compared as lists (as arrays each byte is looked for from the first one on) -/
def kCw (T0 : List Cond) (p : Nat) (M : xQ6) : Bool := match T0[p]? with
  | some (.code n c m r) => M.2.2.2.2.1.isEmpty && decide (n = M.1) && decide (c.data.toList = M.2.1.data.toList) && decide (m = M.2.2.1) && decide (r = M.2.2.2.1) && goodWord (xcw M)
  | _ => kIx T0 p (xcw M)
theorem kCw_ok {T0 : List Cond} {p : Nat} {M : xQ6} (h : kCw T0 p M = true) : xcw M ∈ T0.filter goodWord := by
  unfold kCw at h
  split at h
  · rename_i n c m r hq
    simp only [Bool.and_eq_true, decide_eq_true_eq, List.isEmpty_iff] at h
    obtain ⟨⟨⟨⟨⟨a0, a1⟩, a2⟩, a3⟩, a4⟩, a5⟩ := h
    have e : c = M.2.1 := ByteArray.ext (Array.ext' a2)
    have q : T0[p]? = some (xcw M) := by
      rw [hq, a1, e, a3, a4]
      unfold xcw
      rw [a0]
    exact List.mem_filter.mpr ⟨List.mem_of_getElem? q, a5⟩
  · exact kIx_ok h
/-- a method: its own word (at its place), and all its rows -/
def kM (T0 Ns : List Cond) (cl : List vw_C) (P : List xQ6) (law : Bool) (M : xQ6) (pc pi : Nat) (hs : List Nat) (ps : List (List Nat)) : Bool :=
  (law || (plainName M.1.cls && kCw T0 pc M && kIx T0 pi (Cond.initialized M.1.cls) && decide (M.1.cls ≠ "java/lang/invoke/MethodHandle") && decide (M.1.cls ≠ "java/lang/invoke/VarHandle") && decide (M.2.2.1 ≤ 45) && decide (xpc M 0 = 0))) && decide (hs.length = M.2.2.2.2.1.length) && kL T0 Ns cl P M hs 0 M.2.2.2.2.2 ps
def kOk (T0 Ns : List Cond) (cl : List vw_C) (P : List xQ6) (law : Bool) (M : xQ6) : Prop := (law = false → xmok (T0.filter goodWord) M) ∧ ∀ (i : Nat) (E : xE), M.2.2.2.2.2[i]? = some E → xok (T0.filter goodWord) Ns cl P M i E
theorem kM_ok {T0 Ns : List Cond} {cl : List vw_C} {P : List xQ6} {law : Bool} {M : xQ6} {pc pi : Nat} {hs : List Nat} {ps : List (List Nat)} (h : kM T0 Ns cl P law M pc pi hs ps = true) : kOk T0 Ns cl P law M := by
  unfold kM at h
  simp only [Bool.and_eq_true, Bool.or_eq_true, decide_eq_true_eq] at h
  obtain ⟨⟨h1, h2⟩, h3⟩ := h
  refine ⟨fun q => ?_, fun i E hE => ?_⟩
  · rcases h1 with h1 | ⟨⟨⟨⟨⟨⟨a1, a2⟩, a3⟩, a4⟩, a5⟩, a6⟩, a7⟩
    · rw [q] at h1; cases h1
    · exact ⟨a1, kCw_ok a2, kIx_ok a3, ⟨a4, a5⟩, a6, a7⟩
  · have := kL_ok h2 _ 0 ps h3 i E hE
    rw [Nat.zero_add] at this
    exact this
/-- a long method, in pieces -/
def kQ (T0 Ns : List Cond) (cl : List vw_C) (P : List xQ6) (M : xQ6) (i : Nat) (es : List xE) : Prop := ∀ (j : Nat) (E : xE), es[j]? = some E → xok (T0.filter goodWord) Ns cl P M (i + j) E
theorem kQ_app {T0 Ns : List Cond} {cl : List vw_C} {P : List xQ6} {M : xQ6} {i n : Nat} {a b : List xE} (hn : a.length = n) (h1 : kQ T0 Ns cl P M i a) (h2 : kQ T0 Ns cl P M (i + n) b) : kQ T0 Ns cl P M i (a ++ b) := by
  intro j E hj
  by_cases h : j < a.length
  · rw [List.getElem?_append_left h] at hj
    exact h1 j E hj
  · rw [List.getElem?_append_right (by omega)] at hj
    have := h2 _ E hj
    rw [← hn, show i + a.length + (j - a.length) = i + j by omega] at this
    exact this
theorem kQ_of {T0 Ns : List Cond} {cl : List vw_C} {P : List xQ6} {M : xQ6} {hs : List Nat} {i : Nat} {es : List xE} {ps : List (List Nat)} (h : (decide (hs.length = M.2.2.2.2.1.length) && kL T0 Ns cl P M hs i es ps) = true) : kQ T0 Ns cl P M i es := by
  simp only [Bool.and_eq_true, decide_eq_true_eq] at h
  exact kL_ok h.1 es i ps h.2
def kM0 (T0 : List Cond) (law : Bool) (M : xQ6) (pc pi : Nat) : Bool :=
  law || (plainName M.1.cls && kCw T0 pc M && kIx T0 pi (Cond.initialized M.1.cls) && decide (M.1.cls ≠ "java/lang/invoke/MethodHandle") && decide (M.1.cls ≠ "java/lang/invoke/VarHandle") && decide (M.2.2.1 ≤ 45) && decide (xpc M 0 = 0))
theorem kM_of {T0 Ns : List Cond} {cl : List vw_C} {P : List xQ6} {law : Bool} {M : xQ6} {pc pi : Nat} (h1 : kM0 T0 law M pc pi = true) (h2 : kQ T0 Ns cl P M 0 M.2.2.2.2.2) : kOk T0 Ns cl P law M := by
  unfold kM0 at h1
  simp only [Bool.and_eq_true, Bool.or_eq_true, decide_eq_true_eq] at h1
  refine ⟨fun q => ?_, fun i E hE => ?_⟩
  · rcases h1 with h1 | ⟨⟨⟨⟨⟨⟨a1, a2⟩, a3⟩, a4⟩, a5⟩, a6⟩, a7⟩
    · rw [q] at h1; cases h1
    · exact ⟨a1, kCw_ok a2, kIx_ok a3, ⟨a4, a5⟩, a6, a7⟩
  · have := h2 i E hE
    rw [Nat.zero_add] at this
    exact this
