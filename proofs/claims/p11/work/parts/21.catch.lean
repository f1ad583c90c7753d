section XK
variable {e : Env} {U : State} {f : JFrame} {a : Addr}
/-- a catch type, resolved now or before -/
theorem x_cold {Q : Handler → Pre} {E : CtlPost} {d : Bool} {acts : List Action} {x : ExceptionTableEntry} {t : List ExceptionTableEntry} {cI : ClassId} {cell : Cell} {vm' : Vm} (hx : covers x f.pc = true) (h0 : x.catchType ≠ 0)
    (hg : (Jvm.resolveClass f.method.cls x.catchType).Gives e.toSetting U.vm (.ok cI) vm') (hsz : vm'.classes.size ≤ U.vm.classes.size) (hcell : U.heap[a]? = some cell) (hobj : ∀ k, cell.vm ≠ .statics k) (hk : ∃ k, vm'.classes[cell.cls]? = some k) (hc : ∃ k, vm'.classes[cI]? = some k) :
    wp (findHandler.go f a (x :: t)) Q E e d acts U ↔ if vm'.assignable cell.cls cI = true then Q (.found x.handlerPc) d acts (U.setVm vm') else wp (findHandler.go f a t) Q E e d acts (U.setVm vm') := by
  obtain ⟨ha, ht⟩ := hg.op (op := VmOp.resolveClass f.method.cls x.catchType) rfl
  simp only [covers] at hx
  cases hfit : vm'.assignable cell.cls cI <;>
    simp [findHandler.go, hx, h0, ha, ht, hsz, hcell, hobj, hk, hc, hfit, VmOp.dirties, VmOp.acts]
/-- the search through a method's table: the first row that covers the place and whose kind was thrown -/
theorem x_find {args : Array Value} {s : State} {own : String} {cell : Cell} {i z t : Nat} {F : Nat → Nat} (hpl : e.platform.magicAccessors = ({} : Platform).magicAccessors) (hown : s.vm.findClass own = some f.method.cls) (hcell : U.heap[a]? = some cell) (hobj : ∀ k, cell.vm ≠ .statics k) (hk : ∃ k, s.vm.classes[cell.cls]? = some k) (hAs : ∀ (y : Nat) (C : String) (cI : ClassId), xen y = some C → s.vm.findClass C = some cI → (∃ k, s.vm.classes[cI]? = some k) ∧ s.vm.assignable cell.cls cI = decide (y = z)) :
    ∀ (es : List ExceptionTableEntry) (hs : List (Nat × Nat × Nat × Nat × Nat)), es.map (fun h => (h.startPc, h.endPc, h.handlerPc, h.catchType)) = hs.map (fun h => (F h.1, F h.2.1, F h.2.2.1, h.2.2.2.2)) →
      (∀ h ∈ hs, ((F h.1 ≤ f.pc ∧ f.pc < F h.2.1) ↔ (h.1 ≤ i ∧ i < h.2.1)) ∧ h.2.2.2.2 ≠ 0 ∧ ∃ C, xen h.2.2.2.1 = some C ∧ (Cond.classLink own h.2.2.2.2 C).before args s = true) → xhd hs i z = some t → ∀ vm : Vm, s.WarmedH vm →
      ∃ vm' : Vm, s.WarmedH vm' ∧ ∀ (Q : Handler → Pre) (E : CtlPost) (d : Bool) (acts : List Action), wp (findHandler.go f a es) Q E e d acts (U.setVm vm) ↔ Q (.found (F t)) d acts (U.setVm vm') := by
  intro es
  induction es with
  | nil =>
    intro hs hmap hh hx
    cases hs with
    | nil => simp [xhd] at hx
    | cons h hs => simp at hmap
  | cons x es ih =>
    intro hs hmap hh hx vm hW
    cases hs with
    | nil => simp at hmap
    | cons h hs =>
      simp only [List.map_cons, List.cons.injEq] at hmap
      obtain ⟨hx1, hmap⟩ := hmap
      obtain ⟨h1, h2, h3, h4⟩ : x.startPc = F h.1 ∧ x.endPc = F h.2.1 ∧ x.handlerPc = F h.2.2.1 ∧ x.catchType = h.2.2.2.2 := by
        simp only [Prod.mk.injEq] at hx1
        exact hx1
      obtain ⟨g1, g2, C, g3, g4⟩ := hh h List.mem_cons_self
      have hh' := fun y hy => hh y (List.mem_cons_of_mem _ hy)
      by_cases hcov : h.1 ≤ i ∧ i < h.2.1
      · have hcv : covers x f.pc = true := by
          have := g1.mpr hcov
          simp only [covers, h1, h2, Bool.and_eq_true, decide_eq_true_eq]
          exact this
        obtain ⟨cI, hfc, hcl⟩ := Cond.classLink_spec hown g4 e.platform hpl
        obtain ⟨hg₁, hwarm₁, hready₁⟩ := State.classEntry (e := e) hW hcl
        obtain ⟨⟨kI, hkI⟩, hasg⟩ := hAs _ _ _ g3 hfc
        obtain ⟨kc, hkc⟩ := hk
        obtain ⟨k1, hk1, -⟩ := hwarm₁.alike.2.2 _ _ hkc
        obtain ⟨k2, hk2, -⟩ := hwarm₁.alike.2.2 _ _ hkI
        have hsz : (vm.noted f.method.cls h.2.2.2.2 (.cls cI)).classes.size ≤ vm.classes.size := by
          have e1 := hwarm₁.alike.2.1
          have e2 := hW.alike.2.1
          omega
        have step := fun (Q : Handler → Pre) (E : CtlPost) (d : Bool) (acts : List Action) => x_cold (Q := Q) (E := E) (d := d) (acts := acts) (U := U.setVm vm) (f := f) (a := a) (x := x) (t := es) (cI := cI) (cell := cell) (vm' := vm.noted f.method.cls h.2.2.2.2 (.cls cI)) (e := e) hcv (by rw [h4]; exact g2) (by rw [h4]; exact hg₁) hsz hcell hobj ⟨k1, hk1⟩ ⟨k2, hk2⟩
        rw [hwarm₁.alike.assignable, hasg] at step
        by_cases hz : h.2.2.2.1 = z
        · refine ⟨_, hwarm₁, fun Q E d acts => ?_⟩
          rw [step, if_pos (by simp [hz])]
          have ht : h.2.2.1 = t := by
            obtain ⟨a0, b0, t0, y0, c0⟩ := h
            simp only [xhd] at hx
            rw [if_pos ⟨hcov.1, hcov.2, hz⟩] at hx
            exact Option.some.inj hx
          rw [h3, ht]
          rfl
        · have hx' : xhd hs i z = some t := by
            obtain ⟨a0, b0, t0, y0, c0⟩ := h
            simp only [xhd] at hx
            rw [if_neg (fun q => hz q.2.2)] at hx
            exact hx
          obtain ⟨vm', w1, w2⟩ := ih hs hmap hh' hx' _ hwarm₁
          refine ⟨vm', w1, fun Q E d acts => ?_⟩
          rw [step, if_neg (by simp [hz])]
          exact w2 Q E d acts
      · have hcv : covers x f.pc = false := by
          have := fun q => hcov (g1.mp q)
          simp only [covers, h1, h2]
          simpa using this
        have hx' : xhd hs i z = some t := by
          obtain ⟨a0, b0, t0, y0, c0⟩ := h
          simp only [xhd] at hx
          rw [if_neg (fun q => hcov ⟨q.1, q.2.1⟩)] at hx
          exact hx
        obtain ⟨vm', w1, w2⟩ := ih hs hmap hh' hx' vm hW
        refine ⟨vm', w1, fun Q E d acts => ?_⟩
        rw [W.findHandler_go_skip hcv]
        exact w2 Q E d acts
/-- into a handler, the tables warmer -/
theorem x_caught {tb : Tables} {s target : State} {g : JFrame} {c : Code} {below : List Frame} {vm' : Vm} {pc : Nat} (h : At s g.method c below) (hfind : ∀ (Q : Handler → Pre) (E : CtlPost) (d : Bool) (acts : List Action), wp (findHandler g a) Q E e d acts ((s.setTop g).pushFrame (.throwing a)) ↔ Q (.found pc) d acts (((s.setTop g).pushFrame (.throwing a)).setVm vm'))
    (hrest : Steps tb e below ((s.setVm vm').setTop { g with pc := pc, stack := [.ref a] }) target) : Steps tb e below ((s.setTop g).pushFrame (.throwing a)) target := by
  obtain ⟨hgo, hw⟩ := h.throwing a
  refine Steps.head hgo hw ?_
  have hcatch : ∀ {s : State} {r : List Frame}, (∀ (Q : Handler → Pre) (E : CtlPost) (d : Bool) (acts : List Action), wp (findHandler g a) Q E e d acts s ↔ Q (.found pc) d acts (s.setVm vm')) → (stepThrowing e s a (.java g :: r)).Is ((s.setVm vm').setFrames (.java { g with pc := pc, stack := [.ref a] } :: r)) [] := by
    intro s r hfind
    simp only [stepThrowing, searchFrame, vmDo]
    generalize hr : Sem.go _ e false [] s = res
    obtain ⟨as, rfl, ha⟩ := Sem.eq_ok_of hr (a := Handler.found pc) (s' := s.setVm vm') (acts' := []) (by simp [hfind _ _ _ _])
    exact ⟨rfl, ha⟩
  rw [stepThread_throwing (frames_entered h.top _), (hcatch (s := (s.setTop g).pushFrame (.throwing a)) hfind).1]
  obtain ⟨g₀, hg⟩ := Option.isSome_iff_exists.mp h.top
  obtain ⟨r, hr⟩ := State.topJava?_eq_some.mp hg
  have hr2 : (s.setVm vm').frames = .java g₀ :: r := hr
  rw [State.setTop_of_frames _ hr2] at hrest
  have hsw : ∀ (x : State) (F : List Frame) (v : Vm), (x.setFrames F).setVm v = (x.setVm v).setFrames F := fun _ _ _ => rfl
  rw [State.pushFrame, State.setTop_of_frames _ hr, hr, hsw, hsw, State.setFrames_setFrames, State.setFrames_setFrames]
  exact hrest
end XK
