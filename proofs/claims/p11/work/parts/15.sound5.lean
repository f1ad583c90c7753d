/-! a method's run in the pure machine is the machine's -/
def xpc (M : xQ6) (t : Nat) : Nat := match M.2.2.2.2.2[t]? with
  | some E => E.1
  | none => 0
def xfl (ins : Instr) : Bool := match ins with
  | .goto _ => false
  | .tableswitch _ _ _ _ => false
  | .lookupswitch _ _ => false
  | .ireturn => false
  | .areturn => false
  | .lreturn => false
  | .return_ => false
  | .athrow => false
  | _ => true
/-- a kind's name -/
def xnm (cl : List vw_C) (ci : Nat) : Option String := if ci = 70 then some "java/lang/String" else (cl[ci]?).map fun q => q.1
/-- the words of a call -/
def xclk (Ts Ns : List Cond) (cl : List vw_C) (P : List xQ6) (own : String) (ins : Instr) (ax : List Nat) : Prop := match ins, ax with
  | .invokestatic idx, 0 :: k :: n :: _ => 0 < k ∧ ∀ M' : xQ6, P[k]? = some M' → Cond.static M'.1 ∈ Ts ∧ (Cond.methodLink own idx M'.1 ∈ Ts ∨ ∃ host, Cond.methodLinkNest own idx M'.1 host ∈ Ns) ∧ (parseMethodDescriptor M'.1.desc).map (fun d => d.parameters.length) = some n ∧ ¬ (M'.2.2.2.2.1 ≠ [] ∧ ∃ host, Cond.methodLinkNest own idx M'.1 host ∈ Ns)
  | .invokespecial idx, 0 :: k :: n :: _ => 0 < k ∧ ∀ M' : xQ6, P[k]? = some M' → M'.2.2.2.2.1 = [] ∧ M'.1.name = "<init>" ∧ M'.2.2.2.1 = none ∧ Cond.instanceMethod M'.1 ∈ Ts ∧ (Cond.methodLink own idx M'.1 ∈ Ts ∨ ∃ host, Cond.methodLinkNest own idx M'.1 host ∈ Ns) ∧ (parseMethodDescriptor M'.1.desc).map (fun d => d.parameters.length) = some n
  | .invokevirtual idx, 0 :: k :: n :: ci :: _ => 0 < k ∧ ci ≤ 70 ∧ ∃ q : String, xnm cl ci = some q ∧ ∀ M' : xQ6, P[k]? = some M' → M'.2.2.2.2.1 = [] ∧ Cond.selects q M'.1 M'.1 ∈ Ts ∧ Cond.instanceMethod M'.1 ∈ Ts ∧ (Cond.methodLink own idx M'.1 ∈ Ts ∨ ∃ host, Cond.methodLinkNest own idx M'.1 host ∈ Ns) ∧ (parseMethodDescriptor M'.1.desc).map (fun d => d.parameters.length) = some n
  | .invokestatic idx, [2] => Cond.methodLink own idx arraycopyName ∈ Ts ∧ Cond.native arraycopyName ∈ Ts ∧ Cond.static arraycopyName ∈ Ts ∧ Cond.initialized "java/lang/System" ∈ Ts
  | .invokestatic idx, [3] => Cond.methodLink own idx Lib.Math.max.name ∈ Ts ∧ Cond.static Lib.Math.max.name ∈ Ts ∧ Cond.initialized "java/lang/Math" ∈ Ts ∧ Cond.code Lib.Math.max.name Lib.Math.max.code 2 (some .int) ∈ Ts
  | .invokestatic idx, [4] => Cond.methodLink own idx Lib.Math.min.name ∈ Ts ∧ Cond.static Lib.Math.min.name ∈ Ts ∧ Cond.initialized "java/lang/Math" ∈ Ts ∧ Cond.code Lib.Math.min.name Lib.Math.min.code 2 (some .int) ∈ Ts
  | .invokespecial idx, [1] => Cond.methodLink own idx Lib.objectInit ∈ Ts ∧ Cond.instanceMethod Lib.objectInit ∈ Ts ∧ Cond.code Lib.objectInit ⟨#[0xb1]⟩ 1 none ∈ Ts
  | _, _ => True
/-- the word of a method's bytes -/
def xrh (M : xQ6) : List (Nat × Nat × Nat × Nat) := M.2.2.2.2.1.map fun h => (xpc M h.1, xpc M h.2.1, xpc M h.2.2.1, h.2.2.2.2)
def xcw (M : xQ6) : Cond := match M.2.2.2.2.1 with
  | [] => Cond.code M.1 M.2.1 M.2.2.1 M.2.2.2.1
  | _ => Cond.codeWith M.1 M.2.1 M.2.2.1 M.2.2.2.1 (xrh M)
def xmok (Ts : List Cond) (M : xQ6) : Prop := plainName M.1.cls = true ∧ xcw M ∈ Ts ∧ Cond.initialized M.1.cls ∈ Ts ∧ (M.1.cls ≠ "java/lang/invoke/MethodHandle" ∧ M.1.cls ≠ "java/lang/invoke/VarHandle") ∧ M.2.2.1 ≤ 45 ∧ xpc M 0 = 0
/-- what may be thrown -/
def xen (z : Nat) : Option String := match z with
  | 0 => some "java/lang/IllegalArgumentException"
  | 1 => some "java/lang/IllegalStateException"
  | 2 => some "java/lang/IndexOutOfBoundsException"
  | _ => none
/-- where something may be caught, calls are virtual and of methods that all see -/
def xvirt (Ts : List Cond) (P : List xQ6) (own : String) (ins : Instr) (ax : List Nat) : Prop := match ins, ax with
  | .invokestatic _, 0 :: _ => False
  | .invokespecial _, 0 :: _ => False
  | .invokevirtual idx, 0 :: k :: _ => ∀ M' : xQ6, P[k]? = some M' → Cond.methodLink own idx M'.1 ∈ Ts
  | _, _ => True
def xok (Ts Ns : List Cond) (cl : List vw_C) (P : List xQ6) (M : xQ6) (i : Nat) (E : xE) : Prop :=
  decode M.2.1 E.1 = .ok (E.2.2.1, E.2.1) ∧ (xsw E.2.2.1 = true ∨ E.2.1 = xLen E.2.2.1) ∧ (xfl E.2.2.1 = true → xpc M (i + 1) = E.1 + E.2.1) ∧ xtg (xpc M) E.1 E.2.2.1 E.2.2.2 ∧ xlnk Ts Ns cl M.1.name M.1.cls E.2.2.1 E.2.2.2 ∧ xclk Ts Ns cl P M.1.cls E.2.2.1 E.2.2.2 ∧ ∀ h ∈ M.2.2.2.2.1, ((xpc M h.1 ≤ E.1 ∧ E.1 < xpc M h.2.1) ↔ (h.1 ≤ i ∧ i < h.2.1)) ∧ h.2.2.2.2 ≠ 0 ∧ (∃ C, xen h.2.2.2.1 = some C ∧ Cond.classLink M.1.cls h.2.2.2.2 C ∈ Ts) ∧ (h.1 ≤ i ∧ i < h.2.1 → xvirt Ts P M.1.cls E.2.2.1 E.2.2.2)
/-- the whole program is as its tables say -/
def xall (Ts Ns : List Cond) (cl : List vw_C) (P : List xQ6) : Prop := (∀ (k : Nat) (M : xQ6), P[k]? = some M → (0 < k → xmok Ts M) ∧ ∀ (i : Nat) (E : xE), M.2.2.2.2.2[i]? = some E → xok Ts Ns cl P M i E) ∧ (∀ (ci : Nat) (q : vw_C), cl[ci]? = some q → xclok Ts q) ∧ GoodIn Ts Ts
def xCx (Ts : List Cond) (s0 : State) (B : Nat) (X : State → Prop) (M : xQ6) (p : Program) (s : State) (m : MethodId) (args : Array Value) (meth : Method) (c : Code) : Prop :=
  p.tables.exec = Jvm.exec ∧ c.code = M.2.1 ∧ c.maxLocals = M.2.2.1 ∧ meth.sig.returnType = M.2.2.2.1 ∧ meth.locks = false ∧ meth.name = M.1.name ∧ s.vm.findClass M.1.cls = some m.cls ∧ (∀ w ∈ Ts, w.before args s = true) ∧ s0.vm.Alike s.vm ∧ X s ∧ (∀ q : Nat, q < B → s.heap[q]? = s0.heap[q]?) ∧ c.exceptionTable.toList.map (fun h => (h.startPc, h.endPc, h.handlerPc, h.catchType)) = xrh M
def xPc (cl : List vw_C) (kc : Nat → ClassId) (sl : Nat → Nat → Nat) (s0 : State) (B K : Nat) (pre : Nat → Nat) (X : State → Prop) (hp : xH) (as : List Value) : Array Value → State → Prop := fun v U => v = (as.map (tv (xr B K pre))).toArray ∧ xRp cl kc sl s0 B K pre hp U.heap ∧ s0.vm.Alike U.vm ∧ X U
def xQc (cl : List vw_C) (kc : Nat → ClassId) (sl : Nat → Nat → Nat) (s0 : State) (B K : Nat) (pre : Nat → Nat) (z : xZ) (hp : xH) : Array Value → State → Outcome → State → Prop := fun _ _ o t => xRp cl kc sl s0 B K pre hp t.heap ∧ match z with
  | .inl r => o = .returned (r.map (tv (xr B K pre)))
  | .inr _ => o = .threw (xr B K pre (hp.length - 1))
def xFE (z : xZ) (first : State) (o : Outcome) (t : State) (L : List Loc) (k n : Nat) : Prop := match z with
  | .inl _ => FrameEnd first o t L k n
  | .inr _ => (∃ x, o = .threw x) ∧ first.WarmedH t.vm ∧ first.sameButNew ({ t with vm := first.vm } : State) L k n
def xMQ (z : xZ) (below : List Frame) (Qc : Array Value → State → Outcome → State → Prop) (a : Array Value) (s : State) (mc ms : Nat) (free : Addr → Prop) : State → Prop := fun t =>
  ∃ o, t.status = .running ∧ Ended t below o ∧ Qc a s o t ∧ ∃ L, xFE z s o t L mc ms ∧ ∀ q ∈ L, free q.base
def xMet (z : xZ) (l : Launch) (y : MethodName) (ws : List Cond) (rm : Room) (Pc : Array Value → State → Prop) (Qc : Array Value → State → Outcome → State → Prop) (mc ms : Nat) (free : Addr → Prop) : Prop :=
  MetFree l y (headSpec ws rm) Pc (fun _ _ _ _ _ => True) (fun a st o t => Qc a st o t ∧ ∃ L, xFE z st o t L mc ms ∧ ∀ q ∈ L, free q.base)
theorem xent_ok {ρ : Nat → Nat} {as : List Value} {mx : Nat} (h : (xent as mx).length = mx) : xLH ρ (lg_sl (as.map (tv ρ)) ++ List.replicate (mx - (lg_sl (as.map (tv ρ))).length) Slot.unset).toArray (xent as mx) := by
  have hsl : ∀ l : List Value, (lg_sl (l.map (tv ρ))).length = (l.flatMap fun v => if v.category = 2 then [some v, none] else [some v]).length := by
    intro l
    induction l with
    | nil => rfl
    | cons a l ih =>
      simp only [lg_sl, List.map_cons, List.flatMap_cons, List.length_append, tv_cat] at ih ⊢
      rw [ih]
      split <;> rfl
  have hel : ∀ (l : List Value) (i : Nat) (v : Value), (l.flatMap fun v => if v.category = 2 then [some v, none] else [some v])[i]? = some (some v) → (lg_sl (l.map (tv ρ)))[i]? = some (.val (tv ρ v)) := by
    intro l
    induction l with
    | nil => intro i v hi; simp at hi
    | cons a l ih =>
      intro i v hi
      simp only [lg_sl, List.map_cons, List.flatMap_cons, tv_cat] at ih ⊢
      rw [List.flatMap_cons] at hi
      by_cases hc : a.category = 2
      · rw [if_pos hc] at hi ⊢
        match i, hi with
        | 0, hi => cases hi; rfl
        | 1, hi => cases hi
        | i + 2, hi => exact ih i v hi
      · rw [if_neg hc] at hi ⊢
        match i, hi with
        | 0, hi => cases hi; rfl
        | i + 1, hi => exact ih i v hi
  have hle : (lg_sl (as.map (tv ρ))).length ≤ mx := by
    rw [hsl]
    have h2 := h
    simp only [xent, List.length_append, List.length_replicate] at h2
    omega
  have hen := lv_entry (as.map (tv ρ)) hle
  refine ⟨by rw [hen.1, h], hen.2.1, fun i v hi => ?_⟩
  rw [List.getElem?_toArray]
  unfold xent at hi
  by_cases hlt : i < (as.flatMap fun v => if v.category = 2 then [some v, none] else [some v]).length
  · rw [List.getElem?_append_left hlt] at hi
    rw [List.getElem?_append_left (by rw [hsl]; exact hlt)]
    exact hel as i v hi
  · rw [List.getElem?_append_right (by omega)] at hi
    have := List.mem_of_getElem? hi
    rw [List.mem_replicate] at this
    exact absurd this.2 (by simp)
section X5
variable {l : Launch} {cl : List vw_C} {kc : Nat → ClassId} {sl : Nat → Nat → Nat} {s0 : State} {B K : Nat} {pre : Nat → Nat} {Ts Ns : List Cond} {X : State → Prop} {P : List xQ6} {Cs : List Value}
/-- the run of a method from a place, in any state that is as the pure one -/
def xGo (l : Launch) (cl : List vw_C) (kc : Nat → ClassId) (sl : Nat → Nat → Nat) (s0 : State) (B K : Nat) (pre : Nat → Nat) (Ts : List Cond) (X : State → Prop) (P : List xQ6) (d k i : Nat) (ls : xL) (st : List Value) (hp : xH) (z : xZ) (hp' : xH) : Prop :=
  ∀ (M : xQ6), P[k]? = some M → ls.length = M.2.2.1 → ∀ (p : Program) (e : Env) (R : Room) (s : State) (m : MethodId) (args : Array Value) (below : List Frame) (meth : Method) (c : Code) (H : Heap) (locs : List Loc) (cells slots mc ms : Nat) (lr : Array Slot),
    xCx Ts s0 B X M p s m args meth c → xRp cl kc sl s0 B K pre hp H → xLH (xr B K pre) lr ls → (∀ q ∈ locs, B ≤ q.base) → cells + (hp'.length - hp.length) ≤ mc → slots + (xsz hp' - xsz hp) ≤ ms → mc ≤ R.cells → ms ≤ R.slots → d ≤ R.frames → 64 * d ≤ R.locals →
    W p l e R s m args below meth c H locs cells slots (xMQ z below (xQc cl kc sl s0 B K pre z hp') args s mc ms (fun q => B ≤ q)) (F0 m (xpc M i) lr (st.map (tv (xr B K pre))))
theorem x_met (hall : xall Ts Ns cl P) {d k : Nat} {as : List Value} {hp hp1 : xH} {z : xZ} {M : xQ6} (hM : P[k]? = some M) (hk : 0 < k) (hen : (xent as M.2.2.1).length = M.2.2.1)
    (ih : xGo l cl kc sl s0 B K pre Ts X P d k 0 (xent as M.2.2.1) [] hp z hp1) :
    xMet z l M.1 (xcw M :: Ts) { frames := d, cells := hp1.length - hp.length, slots := xsz hp1 - xsz hp, locals := 64 * d } (xPc cl kc sl s0 B K pre X hp as) (xQc cl kc sl s0 B K pre z hp1) (hp1.length - hp.length) (xsz hp1 - xsz hp) (fun q => B ≤ q) := by
  obtain ⟨hmk, hcode⟩ := hall.1 k M hM
  obtain ⟨hpl, -, -, -, -, h0⟩ := hmk hk
  refine MetFree.of_bodyS (code := M.2.1) (maxLocals := M.2.2.1) (ret := M.2.2.2.1) hpl ?_ ?_
  · intro args s m h hn
    have hc := atoms_spec (ws := xcw M :: Ts) h _ List.mem_cons_self
    unfold xcw at hc
    split at hc
    · obtain ⟨meth, c, h1, h2, h3, h4, h5, h6, -, -⟩ := Cond.code_spec hn hc
      exact ⟨meth, c, h1, h2, h3, h4, h5, h6⟩
    · obtain ⟨m9, meth, c, hn9, h1, h2, h3, h4, -, h5, h6, -⟩ := Cond.codeWith_spec hc
      cases hn.symm.trans hn9
      exact ⟨meth, c, h1, h2, h3, h4, h5, h6⟩
  · intro p e s m args below meth c s₁ Bd hml hv _
    have hexc : c.exceptionTable.toList.map (fun h => (h.startPc, h.endPc, h.handlerPc, h.catchType)) = xrh M := by
      have hc := atoms_spec (ws := xcw M :: Ts) Bd.pre _ List.mem_cons_self
      unfold xcw at hc
      split at hc
      · rename_i hnil
        obtain ⟨meth', c', h1, h2, h3, h4, h5, h6, h7, -⟩ := Cond.code_spec Bd.named hc
        cases Bd.method.symm.trans h1
        cases (Stand.of_body Bd).code.symm.trans h2
        unfold xrh
        rw [hnil]
        have : c.exceptionTable.toList = [] := by simpa using h7
        rw [this]
        rfl
      · obtain ⟨m9, meth', c', hn9, h1, h2, h3, h4, h5, -⟩ := Cond.codeWith_spec hc
        cases Bd.named.symm.trans hn9
        cases Bd.method.symm.trans h1
        cases (Stand.of_body Bd).code.symm.trans h2
        exact h5
    obtain ⟨rfl, hR, hal, hXs⟩ := hv
    have hts := atoms_spec (ws := xcw M :: Ts) Bd.pre
    have hh0 : s₁.heap = s.heap := by rw [Bd.state]; rfl
    have hW := ih M hM hen p e (headSpec (xcw M :: Ts) { frames := d, cells := hp1.length - hp.length, slots := xsz hp1 - xsz hp, locals := 64 * d }).room s m _ below meth c s.heap [] 0 0 (hp1.length - hp.length) (xsz hp1 - xsz hp) _
      ⟨Bd.exec, Bd.bytes, hml, Bd.returns, Bd.notSynchronized, (name_of_methodNamed Bd.named Bd.method).1, findClass_of_methodNamed Bd.named, fun w hw => hts w (List.mem_cons_of_mem _ hw), hal, hXs, hR.2.2.2, hexc⟩ hR (xent_ok hen) (fun q hq => by cases hq) (by omega) (by omega) (Nat.le_refl _) (Nat.le_refl _) (Nat.le_refl _) (Nat.le_refl _)
    rw [h0] at hW
    obtain ⟨t, a1, o, b1, b2, b3⟩ := hW s₁ hh0 (Stand.of_body Bd)
    rw [lg_entry_eq]
    exact ⟨t, o, a1, b1, b2, b3⟩
theorem xS_fl {ins : Instr} {st st' : List Value} (h : xS ins st = some st') : xsw ins = false ∧ xfl ins = true := by
  unfold xS at h
  split at h <;> first | exact ⟨rfl, rfl⟩ | cases h
theorem xV_fl {ins : Instr} {ls ls' : xL} {st st' : List Value} (h : xV ins ls st = some (ls', st')) : xsw ins = false ∧ xfl ins = true := by
  unfold xV at h
  split at h <;> first | exact ⟨rfl, rfl⟩ | cases h
theorem xB_fl {ins : Instr} {ax : List Nat} {i i' : Nat} {st st' : List Value} (h : xB ins ax i st = some (i', st')) : xsw ins = true ∨ xfl ins = true ∨ ∃ o, ins = .goto o := by
  unfold xB at h
  split at h <;> first | exact Or.inr (Or.inr ⟨_, rfl⟩) | exact Or.inr (Or.inl rfl) | exact Or.inl rfl | cases h
theorem xR_fl {ins : Instr} {ax : List Nat} {st st' : List Value} {hp : xH} (h : xR ins ax st hp = some st') : xsw ins = false ∧ xfl ins = true := by
  unfold xR at h
  split at h <;> first | exact ⟨rfl, rfl⟩ | cases h
theorem xW_fl {ins : Instr} {ax : List Nat} {st : List Value} {hp : xH} {q : List Value × xH} (h : xW K ins ax st hp = some q) : xsw ins = false ∧ xfl ins = true := by
  unfold xW at h
  split at h <;> first | exact ⟨rfl, rfl⟩ | cases h
theorem xA_fl {ins : Instr} {ax : List Nat} {st : List Value} {hp : xH} {q : List Value × xH} (h : xA ins ax st hp = some q) : xsw ins = false ∧ xfl ins = true := by
  unfold xA at h
  split at h <;> first | exact ⟨rfl, rfl⟩ | cases h
theorem xT_fl {ins : Instr} {ax : List Nat} {st st' : List Value} (h : xT Cs ins ax st = some st') : xsw ins = false ∧ xfl ins = true := by
  unfold xT at h
  split at h <;> first | exact ⟨rfl, rfl⟩ | cases h
theorem xsp_fl {ins : Instr} {ax : List Nat} {st : List Value} {hp : xH} {q : List Value × xH} (h : xsp K ins ax st hp = some q) : xsw ins = false ∧ xfl ins = true := by
  unfold xsp at h
  split at h <;> first | exact ⟨rfl, rfl⟩ | cases h
theorem xcall_fl {ins : Instr} {ax : List Nat} {st : List Value} {hp : xH} {q : Nat × List Value × List Value} (h : xcall ins ax st hp = some q) : xsw ins = false ∧ xfl ins = true := by
  unfold xcall at h
  split at h <;> first | exact ⟨rfl, rfl⟩ | cases h
theorem xret_fl {rt : Option FieldType} {ins : Instr} {st : List Value} {q : Option Value} (h : xret rt ins st = some q) : xsw ins = false := by
  unfold xret at h
  split at h <;> first | rfl | cases h
end X5
