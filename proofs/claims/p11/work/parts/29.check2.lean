/-! constants and throws in the tables, checked by running this -/
def kMem (T0 : List Cond) (w : Cond) : Bool := decide (w ∈ T0) && goodWord w
theorem kMem_ok {T0 : List Cond} {w : Cond} (h : kMem T0 w = true) : w ∈ T0.filter goodWord := by
  unfold kMem at h
  simp only [Bool.and_eq_true, decide_eq_true_eq] at h
  exact List.mem_filter.mpr h
def kCs (Ck : List (Option Value)) (sio : Value) : List Value := Ck.map fun o => o.getD sio
theorem kCs_get {Ck : List (Option Value)} {sio v : Value} {c : Nat} (h : Ck[c]? = some (some v)) : (kCs Ck sio)[c]? = some v := by
  rw [kCs, List.getElem?_map, h]
  rfl
def kcst (T0 : List Cond) (Ck : List (Option Value)) (Ss : List (String × Nat × String × Nat)) (Zs : List (String × String × String × Nat)) (K : Nat) (own : String) (ins : Instr) (ax : List Nat) : Bool := match ins, ax with
  | .ldc idx, c :: _ => match Ck[c]? with
    | some (some (.int v)) => kMem T0 (Cond.constant own idx v)
    | some (some (.ref j)) => decide (j < K) && Ss.any fun q => decide (q.1 = own) && decide (q.2.1 = idx) && decide (q.2.2.2 = j)
    | _ => false
  | .ldc_w idx, c :: _ => match Ck[c]? with
    | some (some (.int v)) => kMem T0 (Cond.constant own idx v)
    | _ => false
  | .ldc2_w idx, c :: _ => match Ck[c]? with
    | some (some (.long v)) => kMem T0 (Cond.constantLong own idx v)
    | _ => false
  | .getstatic idx, c :: _ => Zs.any fun q => decide (q.2.2.2 = c) && kMem T0 (Cond.fieldLink own idx q.1 q.2.1 q.2.2.1)
  | _, _ => true
theorem kcst_ok {T0 : List Cond} {Ck : List (Option Value)} {Ss : List (String × Nat × String × Nat)} {Zs : List (String × String × String × Nat)} {K : Nat} {own : String} {ins : Instr} {ax : List Nat} {sio : Value} (h : kcst T0 Ck Ss Zs K own ins ax = true) : xcst (T0.filter goodWord) (kCs Ck sio) Ss Zs K own ins ax := by
  unfold kcst at h
  unfold xcst
  split at h
  · split at h
    · rename_i v hv
      exact Or.inl ⟨v, kCs_get hv, kMem_ok h⟩
    · rename_i j hv
      simp only [Bool.and_eq_true, decide_eq_true_eq, List.any_eq_true] at h
      obtain ⟨h1, ⟨o, i, tx, j'⟩, h2, ⟨h3, h4⟩, h5⟩ := h
      subst h3; subst h4; subst h5
      exact Or.inr ⟨tx, j', kCs_get hv, h1, h2⟩
    · cases h
  · split at h
    · rename_i v hv
      exact ⟨v, kCs_get hv, kMem_ok h⟩
    · cases h
  · split at h
    · rename_i v hv
      exact ⟨v, kCs_get hv, kMem_ok h⟩
    · cases h
  · simp only [List.any_eq_true, Bool.and_eq_true, decide_eq_true_eq] at h
    obtain ⟨⟨C, n, d, c'⟩, h1, h2, h3⟩ := h
    subst h2
    exact ⟨C, n, d, kMem_ok h3, h1⟩
  · rename_i h1 h2 h3 h4
    split
    · exact absurd rfl (h1 _ _ _ rfl)
    · exact absurd rfl (h2 _ _ _ rfl)
    · exact absurd rfl (h3 _ _ _ rfl)
    · exact absurd rfl (h4 _ _ _ rfl)
    · trivial
/-- Os: who throws by which entry which kind -/
def kthk (T0 : List Cond) (Ss : List (String × Nat × String × Nat)) (Os : List (String × Nat × String)) (M : xQ6) (i : Nat) (ins : Instr) (ax : List Nat) : Bool := match xthr ins ax with
  | none => true
  | some z => match xen z, ins, M.2.2.2.2.2[i + 2]?, M.2.2.2.2.2[i + 3]? with
    | some cls, .new i1, some (_, _, .ldc i2, _), some (_, _, .invokespecial ic, _) => M.2.2.2.2.1.isEmpty && decide (decode M.2.1 (xpc M i) = .ok (.new i1, 3)) && decide (decode M.2.1 (xpc M i + 3) = .ok (.dup, 1)) && decide (decode M.2.1 (xpc M i + 4) = .ok (.ldc i2, 2)) && decide (decode M.2.1 (xpc M i + 6) = .ok (.invokespecial ic, 3)) && decide (decode M.2.1 (xpc M i + 9) = .ok (.athrow, 1)) &&
      kMem T0 (Cond.classLink M.1.cls i1 cls) && kMem T0 (Cond.instantiable cls 6) && kMem T0 (Cond.initialized cls) && (Ss.any fun q => decide (q.1 = M.1.cls) && decide (q.2.1 = i2)) && decide ((M.1.cls, ic, cls) ∈ Os) && Bundle.fit cls
    | _, _, _, _ => false
def kNames : List String := ["java/lang/RuntimeException", "java/lang/Exception"]
theorem kthk_ok {T0 As : List Cond} {Ss : List (String × Nat × String × Nat)} {Os : List (String × Nat × String)} {M : xQ6} {i z : Nat} {ins : Instr} {ax : List Nat} (hO : ∀ q ∈ Os, ∀ a ∈ Bundle.ownAtoms q.1 q.2.1 q.2.2 kNames, a ∈ T0.filter goodWord ∨ a ∈ As) (h : kthk T0 Ss Os M i ins ax = true) (hz : xthr ins ax = some z) : xthk (T0.filter goodWord) As Ss M i z := by
  unfold kthk at h
  rw [hz] at h
  simp only at h
  split at h
  · rename_i cls i1 p2 l2 i2 a2 p3 l3 ic a3 hcls h2 h3
    simp only [Bool.and_eq_true, decide_eq_true_eq, List.isEmpty_iff, List.any_eq_true] at h
    obtain ⟨⟨⟨⟨⟨⟨⟨⟨⟨⟨⟨b1, b2⟩, b3⟩, b4⟩, b5⟩, b6⟩, b7⟩, b8⟩, b9⟩, b10⟩, b11⟩, b12⟩ := h
    obtain ⟨⟨o, i', tx, j⟩, c1, c2, c3⟩ := b10
    simp only at c2 c3
    subst c3
    exact ⟨i1, i', ic, j, tx, cls, kNames, b1, b2, b3, b4, b5, b6, hcls, by decide, kMem_ok b7, kMem_ok b8, kMem_ok b9, c2 ▸ c1, hO _ b11, b12, by decide +kernel⟩
  · cases h
def k2L (T0 : List Cond) (Ck : List (Option Value)) (Ss : List (String × Nat × String × Nat)) (Zs : List (String × String × String × Nat)) (Os : List (String × Nat × String)) (K : Nat) (M : xQ6) : Nat → List xE → Bool
  | _, [] => true
  | i, (_, _, ins, ax) :: es => kcst T0 Ck Ss Zs K M.1.cls ins ax && kthk T0 Ss Os M i ins ax && k2L T0 Ck Ss Zs Os K M (i + 1) es
theorem k2L_ok {T0 : List Cond} {Ck : List (Option Value)} {Ss : List (String × Nat × String × Nat)} {Zs : List (String × String × String × Nat)} {Os : List (String × Nat × String)} {K : Nat} {M : xQ6} : ∀ (es : List xE) (i : Nat), k2L T0 Ck Ss Zs Os K M i es = true → ∀ (j pc len : Nat) (ins : Instr) (ax : List Nat), es[j]? = some (pc, len, ins, ax) → kcst T0 Ck Ss Zs K M.1.cls ins ax = true ∧ kthk T0 Ss Os M (i + j) ins ax = true := by
  intro es
  induction es with
  | nil => intro i h j pc len ins ax hj; simp at hj
  | cons e es ih =>
    intro i h j pc len ins ax hj
    obtain ⟨p0, l0, in0, a0⟩ := e
    simp only [k2L, Bool.and_eq_true] at h
    match j, hj with
    | 0, hj => cases hj; exact h.1
    | j + 1, hj =>
      have := ih (i + 1) h.2 j pc len ins ax hj
      rw [show i + (j + 1) = i + 1 + j by omega]
      exact this
